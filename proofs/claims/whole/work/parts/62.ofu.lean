/-- the last key below n of which p holds -/
def fnd (p : Nat → Bool) : Nat → Option Nat
  | 0 => none
  | n + 1 => if p n = true then some n else fnd p n
theorem fnd_s (p : Nat → Bool) (n : Nat) : fnd p (n + 1) = if p n = true then some n else fnd p n := rfl
theorem fnd_some {p : Nat → Bool} : ∀ {n c : Nat}, fnd p n = some c → c < n ∧ p c = true := by
  intro n
  induction n with
  | zero => intro c h; cases h
  | succ n ih =>
    intro c h
    rw [fnd_s] at h
    by_cases q : p n = true
    · rw [if_pos q] at h; cases h; exact ⟨by omega, q⟩
    · rw [if_neg q] at h; obtain ⟨a, b⟩ := ih h; exact ⟨by omega, b⟩
theorem fnd_none {p : Nat → Bool} : ∀ {n : Nat}, fnd p n = none → ∀ c, c < n → p c = false := by
  intro n
  induction n with
  | zero => intro h c hc; omega
  | succ n ih =>
    intro h c hc
    rw [fnd_s] at h
    by_cases q : p n = true
    · rw [if_pos q] at h; cases h
    · rw [if_neg q] at h
      by_cases e : c = n
      · rw [e]; cases w : p n with | false => rfl | true => exact absurd w q
      · exact ih h c (by omega)
/-- if there is but one, it is found -/
theorem fnd_one {p : Nat → Bool} {n c : Nat} (hc : c < n) (hp : p c = true) (hu : ∀ d, p d = true → d = c) : fnd p n = some c := by
  cases h : fnd p n with
  | none => have := fnd_none h c hc; rw [hp] at this; cases this
  | some d => rw [hu d (fnd_some h).2]
theorem fnd_no {p : Nat → Bool} {n : Nat} (h : ∀ c, c < n → p c = false) : fnd p n = none := by
  cases q : fnd p n with
  | none => rfl
  | some d => obtain ⟨a, b⟩ := fnd_some q; rw [h d a] at b; cases b
def chP (I : Nat → Bool) (U : Nat → Option Nat) (e : Nat) (b : Bool) : Nat → Bool := fun c => I c && decide (U c = some e) && (if b then decide (c < e) else decide (e < c))
theorem chP_l {I : Nat → Bool} {U : Nat → Option Nat} {e c : Nat} : chP I U e true c = true ↔ I c = true ∧ U c = some e ∧ c < e := by
  unfold chP; simp [and_assoc]
theorem chP_r {I : Nat → Bool} {U : Nat → Option Nat} {e c : Nat} : chP I U e false c = true ↔ I c = true ∧ U c = some e ∧ e < c := by
  unfold chP; simp [and_assoc]
/-- the links down, from the links up -/
def chL (I : Nat → Bool) (U : Nat → Option Nat) : Nat → Option Nat := fun e => fnd (chP I U e true) 64
def chR (I : Nat → Bool) (U : Nat → Option Nat) : Nat → Option Nat := fun e => fnd (chP I U e false) 64
def rtP (I : Nat → Bool) (U : Nat → Option Nat) : Nat → Bool := fun c => I c && decide (U c = none)
def rtO (I : Nat → Bool) (U : Nat → Option Nat) : Option Nat := fnd (rtP I U) 64
theorem rtP_i {I : Nat → Bool} {U : Nat → Option Nat} {c : Nat} : rtP I U c = true ↔ I c = true ∧ U c = none := by
  unfold rtP; simp
section OU
variable {I : Nat → Bool} {U : Nat → Option Nat} {lo hi : Nat → Nat}
theorem WF.ofU (h1 : ∀ k, I k = true → k < 64 ∧ lo k ≤ k ∧ k < hi k ∧ hi k ≤ 64)
    (h2 : ∀ k u, I k = true → U k = some u → I u = true ∧ ((k < u ∧ lo k = lo u ∧ hi k = u) ∨ (u < k ∧ lo k = u + 1 ∧ hi k = hi u)))
    (h3 : ∀ k, I k = true → U k = none → lo k = 0 ∧ hi k = 64)
    (hu : ∀ a b, I a = true → I b = true → lo a = lo b → hi a = hi b → a = b)
    (h4 : ∀ k j, I k = true → I j = true → lo k ≤ j → j < k → ∃ c, I c = true ∧ U c = some k ∧ c < k)
    (h5 : ∀ k j, I k = true → I j = true → k < j → j < hi k → ∃ c, I c = true ∧ U c = some k ∧ k < c)
    (h6 : ∀ j, I j = true → ∃ r, I r = true ∧ U r = none) : WF (chL I U) (chR I U) U (rtO I U) I lo hi := by
  have ul : ∀ k c d, I k = true → I c = true → U c = some k → c < k → I d = true → U d = some k → d < k → d = c := by
    intro k c d hk hc c1 c2 hd d1 d2
    have a := (h2 c k hc c1).2
    have b := (h2 d k hd d1).2
    exact hu d c hd hc (by omega) (by omega)
  have ur : ∀ k c d, I k = true → I c = true → U c = some k → k < c → I d = true → U d = some k → k < d → d = c := by
    intro k c d hk hc c1 c2 hd d1 d2
    have a := (h2 c k hc c1).2
    have b := (h2 d k hd d1).2
    exact hu d c hd hc (by omega) (by omega)
  refine ⟨h1, ?_, ?_, ?_, ?_, ?_, ?_, ?_, ?_⟩
  · intro k c hk hc
    obtain ⟨-, w⟩ := fnd_some hc
    rw [chP_l] at w
    obtain ⟨w1, w2, w3⟩ := w
    have := (h2 c k w1 w2).2
    exact ⟨w1, w2, by omega, by omega⟩
  · intro k c hk hc
    obtain ⟨-, w⟩ := fnd_some hc
    rw [chP_r] at w
    obtain ⟨w1, w2, w3⟩ := w
    have := (h2 c k w1 w2).2
    exact ⟨w1, w2, by omega, by omega⟩
  · intro k j hk hn hj hlt
    obtain ⟨c, c1, c2, c3⟩ := h4 k j hk hj hlt.1 hlt.2
    have := fnd_none hn c (h1 c c1).1
    rw [chP_l.mpr ⟨c1, c2, c3⟩] at this; cases this
  · intro k j hk hn hj hlt
    obtain ⟨c, c1, c2, c3⟩ := h5 k j hk hj hlt.1 hlt.2
    have := fnd_none hn c (h1 c c1).1
    rw [chP_r.mpr ⟨c1, c2, c3⟩] at this; cases this
  · intro k hk hn
    refine fnd_one (h1 k hk).1 (rtP_i.mpr ⟨hk, hn⟩) (fun d hd => ?_)
    obtain ⟨d1, d2⟩ := rtP_i.mp hd
    have a := h3 k hk hn
    have b := h3 d d1 d2
    exact hu d k d1 hk (by omega) (by omega)
  · intro k u hk hku
    obtain ⟨a, b⟩ := h2 k u hk hku
    refine ⟨a, ?_⟩
    rcases b with b | b
    · left
      refine fnd_one (h1 k hk).1 (chP_l.mpr ⟨hk, hku, b.1⟩) (fun d hd => ?_)
      obtain ⟨d1, d2, d3⟩ := chP_l.mp hd
      exact ul u k d a hk hku b.1 d1 d2 d3
    · right
      refine fnd_one (h1 k hk).1 (chP_r.mpr ⟨hk, hku, b.1⟩) (fun d hd => ?_)
      obtain ⟨d1, d2, d3⟩ := chP_r.mp hd
      exact ur u k d a hk hku b.1 d1 d2 d3
  · intro r hr
    obtain ⟨-, w⟩ := fnd_some hr
    obtain ⟨w1, w2⟩ := rtP_i.mp w
    have := h3 r w1 w2
    exact ⟨w1, w2, this.1, this.2⟩
  · intro hn j
    cases q : I j with
    | false => rfl
    | true =>
      obtain ⟨r, r1, r2⟩ := h6 j q
      have := fnd_none hn r (h1 r r1).1
      rw [rtP_i.mpr ⟨r1, r2⟩] at this; cases this
theorem NI.ofU (h : ∀ k, I k = false → U k = none) (h2 : ∀ k u, I k = true → U k = some u → I u = true) : NI (chL I U) (chR I U) U I := by
  intro k hk
  refine ⟨?_, ?_, h k hk⟩
  · refine fnd_no (fun c _ => ?_)
    cases q : chP I U k true c with
    | false => rfl
    | true => obtain ⟨q1, q2, q3⟩ := chP_l.mp q; have := h2 c k q1 q2; rw [hk] at this; cases this
  · refine fnd_no (fun c _ => ?_)
    cases q : chP I U k false c with
    | false => rfl
    | true => obtain ⟨q1, q2, q3⟩ := chP_r.mp q; have := h2 c k q1 q2; rw [hk] at this; cases this
/-- a left link is the only one -/
theorem WF.chL_eq {L R : Nat → Option Nat} {rt : Option Nat} (hw : WF L R U rt I lo hi) {k : Nat} (hk : I k = true) : chL I U k = L k := by
  cases h : L k with
  | none =>
    refine fnd_no (fun c _ => ?_)
    cases q : chP I U k true c with
    | false => rfl
    | true =>
      obtain ⟨q1, q2, q3⟩ := chP_l.mp q
      obtain ⟨-, -, -, s⟩ := hw.side q1 q2
      rcases s with s | s
      · rw [h] at s; cases s.2.1
      · omega
  | some c =>
    obtain ⟨c1, c2, c3, c4⟩ := hw.2.1 k c hk h
    have bc := hw.1 c c1
    refine fnd_one bc.1 (chP_l.mpr ⟨c1, c2, by omega⟩) (fun d hd => ?_)
    obtain ⟨q1, q2, q3⟩ := chP_l.mp hd
    obtain ⟨-, -, -, s⟩ := hw.side q1 q2
    rcases s with s | s
    · rw [h] at s; exact (Option.some.inj s.2.1).symm
    · omega
theorem WF.chR_eq {L R : Nat → Option Nat} {rt : Option Nat} (hw : WF L R U rt I lo hi) {k : Nat} (hk : I k = true) : chR I U k = R k := by
  cases h : R k with
  | none =>
    refine fnd_no (fun c _ => ?_)
    cases q : chP I U k false c with
    | false => rfl
    | true =>
      obtain ⟨q1, q2, q3⟩ := chP_r.mp q
      obtain ⟨-, -, -, s⟩ := hw.side q1 q2
      rcases s with s | s
      · omega
      · rw [h] at s; cases s.2.1
  | some c =>
    obtain ⟨c1, c2, c3, c4⟩ := hw.2.2.1 k c hk h
    have bc := hw.1 c c1
    refine fnd_one bc.1 (chP_r.mpr ⟨c1, c2, by omega⟩) (fun d hd => ?_)
    obtain ⟨q1, q2, q3⟩ := chP_r.mp hd
    obtain ⟨-, -, -, s⟩ := hw.side q1 q2
    rcases s with s | s
    · omega
    · rw [h] at s; exact (Option.some.inj s.2.1).symm
end OU
section CU
variable {G : Gh} {cut : Nat}
/-- the key that an interval begins behind, and the one that it ends at -/
theorem GW.loK (hw : GW G) : ∀ (m a : Nat), gI G a = true → 64 ≤ m + wid G a → 0 < glo G a → ∃ e, e + 1 = glo G a ∧ gI G e = true ∧ ghi G a ≤ ghi G e := by
  intro m
  induction m with
  | zero =>
    intro a ha h1 h2
    have := hw.1 a ha; unfold wid at h1; omega
  | succ m ih =>
    intro a ha h1 h2
    cases hU : gU G a with
    | none => have := hw.2.2.2.2.2.2.2.1 a (hw.2.2.2.2.2.1 a ha hU); omega
    | some u =>
      obtain ⟨hIu, hwd⟩ := hw.wide ha hU
      obtain ⟨-, -, -, s⟩ := WF.side hw ha hU
      rcases s with s | s
      · obtain ⟨e, e1, e2, e3⟩ := ih u hIu (by unfold wid at *; omega) (by omega)
        have := hw.1 u hIu
        exact ⟨e, by omega, e2, by omega⟩
      · exact ⟨u, by omega, hIu, by omega⟩
theorem GW.hiK (hw : GW G) : ∀ (m a : Nat), gI G a = true → 64 ≤ m + wid G a → ghi G a < 64 → gI G (ghi G a) = true ∧ glo G (ghi G a) ≤ glo G a := by
  intro m
  induction m with
  | zero =>
    intro a ha h1 h2
    have := hw.1 a ha; unfold wid at h1; omega
  | succ m ih =>
    intro a ha h1 h2
    cases hU : gU G a with
    | none => have := hw.2.2.2.2.2.2.2.1 a (hw.2.2.2.2.2.1 a ha hU); omega
    | some u =>
      obtain ⟨hIu, hwd⟩ := hw.wide ha hU
      obtain ⟨-, -, -, s⟩ := WF.side hw ha hU
      rcases s with s | s
      · rw [s.2.2.2]; exact ⟨hIu, by omega⟩
      · obtain ⟨e1, e2⟩ := ih u hIu (by unfold wid at *; omega) (by omega)
        have := hw.1 u hIu
        rw [s.2.2.2]; exact ⟨e1, by omega⟩
theorem GW.uniq (hw : GW G) {a b : Nat} (ha : gI G a = true) (hb : gI G b = true) (hlo : glo G a = glo G b) (h1 : a < ghi G b) (h2 : b < ghi G a) : a = b := by
  have ba := hw.1 a ha
  have bb := hw.1 b hb
  rcases Nat.lt_trichotomy a b with q | q | q
  · have := (hw.sub hb ⟨ha, by omega, h2⟩ (by omega)).2.2 q; omega
  · exact q
  · have := (hw.sub ha ⟨hb, by omega, h1⟩ (by omega)).2.2 q; omega
theorem GW.uniqH (hw : GW G) {a b : Nat} (ha : gI G a = true) (hb : gI G b = true) (hhi : ghi G a = ghi G b) (h1 : glo G b ≤ a) (h2 : glo G a ≤ b) : a = b := by
  have ba := hw.1 a ha
  have bb := hw.1 b hb
  rcases Nat.lt_trichotomy a b with q | q | q
  · have := (hw.sub ha ⟨hb, h1, by omega⟩ (by omega)).2.1 q; omega
  · exact q
  · have := (hw.sub hb ⟨ha, h2, by omega⟩ (by omega)).2.1 q; omega
end CU
