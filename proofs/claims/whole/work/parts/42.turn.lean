/-- sizes are right at every key that is in; else 0 -/
def SZ (L R : Nat → Option Nat) (I : Nat → Bool) (sz : Nat → Nat) : Prop := ∀ k, (I k = true → sz k = 1 + szo sz (L k) + szo sz (R k)) ∧ (I k = false → sz k = 0)
/-- keys that are not in have no links -/
def NI (L R U : Nat → Option Nat) (I : Nat → Bool) : Prop := ∀ k, I k = false → L k = none ∧ R k = none ∧ U k = none
section WFB
variable {L R U : Nat → Option Nat} {rt : Option Nat} {I : Nat → Bool} {lo hi : Nat → Nat}
theorem WF.bL (h : WF L R U rt I lo hi) (hn : NI L R U I) (k : Nat) : Bd (L k) := by
  intro c hc
  cases hI : I k with
  | true => exact (h.1 c (h.2.1 k c hI hc).1).1
  | false => rw [(hn k hI).1] at hc; cases hc
theorem WF.bR (h : WF L R U rt I lo hi) (hn : NI L R U I) (k : Nat) : Bd (R k) := by
  intro c hc
  cases hI : I k with
  | true => exact (h.1 c (h.2.2.1 k c hI hc).1).1
  | false => rw [(hn k hI).2.1] at hc; cases hc
theorem WF.bU (h : WF L R U rt I lo hi) (hn : NI L R U I) (k : Nat) : Bd (U k) := by
  intro c hc
  cases hI : I k with
  | true => exact (h.1 c (h.2.2.2.2.2.2.1 k c hI hc).1).1
  | false => rw [(hn k hI).2.2] at hc; cases hc
theorem WF.brt (h : WF L R U rt I lo hi) : Bd rt := fun r hr => (h.1 r (h.2.2.2.2.2.2.2.1 r hr).1).1
/-- the two sides of a key and the one above it -/
theorem WF.side (h : WF L R U rt I lo hi) {k u : Nat} (hk : I k = true) (hu : U k = some u) : I u = true ∧ u < 64 ∧ k < 64 ∧ ((k < u ∧ L u = some k ∧ lo k = lo u ∧ hi k = u) ∨ (u < k ∧ R u = some k ∧ lo k = u + 1 ∧ hi k = hi u)) := by
  obtain ⟨hIu, hs⟩ := h.2.2.2.2.2.2.1 k u hk hu
  have a1 := h.1 k hk
  have a2 := h.1 u hIu
  refine ⟨hIu, a2.1, a1.1, ?_⟩
  rcases hs with hs | hs
  · obtain ⟨-, -, e1, e2⟩ := h.2.1 u k hIu hs
    exact Or.inl ⟨by omega, hs, e1, e2⟩
  · obtain ⟨-, -, e1, e2⟩ := h.2.2.1 u k hIu hs
    exact Or.inr ⟨by omega, hs, e1, e2⟩
end WFB
section TN
variable {L R U : Nat → Option Nat} {rt : Option Nat} {I : Nat → Bool} {lo hi : Nat → Nat} {sz : Nat → Nat}
theorem NI.turn (h : WF L R U rt I lo hi) (hn : NI L R U I) {k u : Nat} (hk : I k = true) (hu : U k = some u) : NI (tL L k u (if k < u then R k else L k) (U u)) (tR R k u (if k < u then R k else L k) (U u)) (tU U k u (if k < u then R k else L k) (U u)) I := by
  intro j hj
  obtain ⟨h1, h2, h3, h4, h5, h6, h7, h8, h9⟩ := h
  obtain ⟨a1, a2, a3⟩ := hn j hj
  have b1 := h7 k u hk hu
  simp only [tL, tR, tU]
  refine ⟨?_, ?_, ?_⟩ <;> grind
/-- the sizes behind a turn: of the two keys anew, of the others as they were -/
def tsz (L R : Nat → Option Nat) (sz : Nat → Nat) (k u : Nat) : Nat → Nat := fun j => if j = k then sz u else if j = u then 1 + (if k < u then szo sz (R k) + szo sz (R u) else szo sz (L k) + szo sz (L u)) else sz j
set_option maxHeartbeats 4000000 in
theorem SZ.turn (h : WF L R U rt I lo hi) (hs : SZ L R I sz) {k u : Nat} (hk : I k = true) (hu : U k = some u) : SZ (tL L k u (if k < u then R k else L k) (U u)) (tR R k u (if k < u then R k else L k) (U u)) I (tsz L R sz k u) := by
  obtain ⟨hIu, hu64, hk64, hside⟩ := h.side hk hu
  obtain ⟨h1, h2, h3, h4, h5, h6, h7, h8, h9⟩ := h
  have s1 := (hs k).1 hk
  have s2 := (hs u).1 hIu
  have hne : k ≠ u := by omega
  -- a child that isn't k or u keeps its size
  have keep : ∀ o : Option Nat, o ≠ some k → o ≠ some u → szo (tsz L R sz k u) o = szo sz o := by
    intro o a b
    cases o with
    | none => rfl
    | some c =>
      show tsz L R sz k u c = sz c
      rw [tsz, if_neg (fun e => a (by rw [e])), if_neg (fun e => b (by rw [e]))]
  have ek : tsz L R sz k u k = sz u := by rw [tsz, if_pos rfl]
  have eu : tsz L R sz k u u = 1 + (if k < u then szo sz (R k) + szo sz (R u) else szo sz (L k) + szo sz (L u)) := by rw [tsz, if_neg hne.symm, if_pos rfl]
  -- only the key above has k, only the one above that has u
  have upL : ∀ j c, I j = true → L j = some c → U c = some j := fun j c a b => (h2 j c a b).2.1
  have upR : ∀ j c, I j = true → R j = some c → U c = some j := fun j c a b => (h3 j c a b).2.1
  intro j
  refine ⟨fun hj => ?_, fun hj => ?_⟩
  · rcases hside with ⟨hlt, hL, e1, e2⟩ | ⟨hlt, hR, e1, e2⟩
    · have hRu : R u ≠ some k := fun e => by have := (h3 u k hIu e).2.2.1; have := h1 k hk; omega
      by_cases jk : j = k
      · subst jk
        have x1 : tL L j u (if j < u then R j else L j) (U u) j = L j := by
          simp only [tL, hlt, if_true]
          rw [if_neg hne, if_neg]
          rintro ⟨a, b⟩; omega
        have x2 : tR R j u (if j < u then R j else L j) (U u) j = some u := by simp only [tR, hlt, if_true]
        rw [x1, x2, ek, keep (L j) (fun e => by have := (h2 j j hk e).2.2.2; have := h1 j hk; omega) (fun e => by have := (h2 j u hk e).2.2.2; have := h1 u hIu; omega)]
        show _ = _ + tsz L R sz j u u
        rw [eu, if_pos hlt, s2, hL]
        show 1 + sz j + _ = _
        rw [s1]; omega
      · by_cases ju : j = u
        · subst ju
          have x1 : tL L k j (if k < j then R k else L k) (U j) j = R k := by simp only [tL, hlt, if_true]
          have x2 : tR R k j (if k < j then R k else L k) (U j) j = R j := by
            simp only [tR, hlt, if_true]
            rw [if_neg (Ne.symm hne), if_neg]
            rintro ⟨a, b⟩; omega
          rw [x1, x2, eu, if_pos hlt, keep (R k) (fun e => by have := (h3 k k hk e).2.2.1; have := h1 k hk; omega) (fun e => by have := upR k j hk e; have := h1 j hIu; have := (h3 k j hk e).2.2.2; omega), keep (R j) hRu (fun e => by have := (h3 j j hIu e).2.2.1; have := h1 j hIu; omega)]
          omega
        · have sj := (hs j).1 hj
          have tj : tsz L R sz k u j = sz j := by rw [tsz, if_neg jk, if_neg ju]
          by_cases hg : U u = some j
          · obtain ⟨-, hs2⟩ := h7 u j hIu hg
            have cl : L j ≠ some k := fun e => by have := upL j k hj e; rw [hu] at this; cases this; exact ju rfl
            have cr : R j ≠ some k := fun e => by have := upR j k hj e; rw [hu] at this; cases this; exact ju rfl
            by_cases hju : u < j
            · have hLj : L j = some u := by
                rcases hs2 with q | q
                · exact q
                · have := (h3 j u hj q).2.2.1; have := h1 u hIu; omega
              have x1 : tL L k u (if k < u then R k else L k) (U u) j = some k := by simp only [tL, hlt, if_true]; rw [if_neg ju, if_pos ⟨hg, hju⟩]
              have x2 : tR R k u (if k < u then R k else L k) (U u) j = R j := by simp only [tR, hlt, if_true]; rw [if_neg jk, if_neg (by rintro ⟨a, b⟩; omega)]
              rw [x1, x2, tj, keep (R j) cr (fun e => by have := (h3 j u hj e).2.2.1; have := h1 u hIu; omega)]
              show _ = 1 + tsz L R sz k u k + _
              rw [ek, sj, hLj]; rfl
            · have hRj : R j = some u := by
                rcases hs2 with q | q
                · have := (h2 j u hj q).2.2.2; have := h1 u hIu; omega
                · exact q
              have x1 : tL L k u (if k < u then R k else L k) (U u) j = L j := by simp only [tL, hlt, if_true]; rw [if_neg ju, if_neg (by rintro ⟨a, b⟩; omega)]
              have x2 : tR R k u (if k < u then R k else L k) (U u) j = some k := by simp only [tR, hlt, if_true]; rw [if_neg jk, if_pos ⟨hg, by omega⟩]
              rw [x1, x2, tj, keep (L j) cl (fun e => by have := (h2 j u hj e).2.2.2; have := h1 u hIu; omega)]
              show _ = 1 + _ + tsz L R sz k u k
              rw [ek, sj, hRj]; rfl
          · have x1 : tL L k u (if k < u then R k else L k) (U u) j = L j := by simp only [tL, hlt, if_true]; rw [if_neg ju, if_neg (fun q => hg q.1)]
            have x2 : tR R k u (if k < u then R k else L k) (U u) j = R j := by simp only [tR, hlt, if_true]; rw [if_neg jk, if_neg (fun q => hg q.1)]
            rw [x1, x2, tj, sj, keep (L j) (fun e => by have := upL j k hj e; rw [hu] at this; cases this; exact ju rfl) (fun e => hg (upL j u hj e)), keep (R j) (fun e => by have := upR j k hj e; rw [hu] at this; cases this; exact ju rfl) (fun e => hg (upR j u hj e))]
    · have hnl : ¬ k < u := by omega
      have hLu : L u ≠ some k := fun e => by have := (h2 u k hIu e).2.2.2; have := h1 k hk; omega
      by_cases jk : j = k
      · subst jk
        have x1 : tL L j u (if j < u then R j else L j) (U u) j = some u := by simp only [tL, hnl, if_false, if_true]
        have x2 : tR R j u (if j < u then R j else L j) (U u) j = R j := by
          simp only [tR, hnl, if_false]
          rw [if_neg hne, if_neg]
          rintro ⟨a, b⟩; omega
        rw [x1, x2, ek, keep (R j) (fun e => by have := (h3 j j hk e).2.2.1; have := h1 j hk; omega) (fun e => by have := (h3 j u hk e).2.2.1; have := h1 u hIu; omega)]
        show _ = 1 + tsz L R sz j u u + _
        rw [eu, if_neg hnl, s2, hR]
        show 1 + _ + sz j = _
        rw [s1]; omega
      · by_cases ju : j = u
        · subst ju
          have x2 : tR R k j (if k < j then R k else L k) (U j) j = L k := by simp only [tR, hnl, if_false, if_true]
          have x1 : tL L k j (if k < j then R k else L k) (U j) j = L j := by
            simp only [tL, hnl, if_false]
            rw [if_neg (Ne.symm hne), if_neg]
            rintro ⟨a, b⟩; omega
          rw [x1, x2, eu, if_neg hnl, keep (L k) (fun e => by have := (h2 k k hk e).2.2.2; have := h1 k hk; omega) (fun e => by have := (h2 k j hk e).2.2.1; have := h1 j hIu; omega), keep (L j) hLu (fun e => by have := (h2 j j hIu e).2.2.2; have := h1 j hIu; omega)]
          omega
        · have sj := (hs j).1 hj
          have tj : tsz L R sz k u j = sz j := by rw [tsz, if_neg jk, if_neg ju]
          by_cases hg : U u = some j
          · obtain ⟨-, hs2⟩ := h7 u j hIu hg
            have cl : L j ≠ some k := fun e => by have := upL j k hj e; rw [hu] at this; cases this; exact ju rfl
            have cr : R j ≠ some k := fun e => by have := upR j k hj e; rw [hu] at this; cases this; exact ju rfl
            by_cases hju : u < j
            · have hLj : L j = some u := by
                rcases hs2 with q | q
                · exact q
                · have := (h3 j u hj q).2.2.1; have := h1 u hIu; omega
              have x1 : tL L k u (if k < u then R k else L k) (U u) j = some k := by simp only [tL, hnl, if_false]; rw [if_neg jk, if_pos ⟨hg, hju⟩]
              have x2 : tR R k u (if k < u then R k else L k) (U u) j = R j := by simp only [tR, hnl, if_false]; rw [if_neg ju, if_neg (by rintro ⟨a, b⟩; omega)]
              rw [x1, x2, tj, keep (R j) cr (fun e => by have := (h3 j u hj e).2.2.1; have := h1 u hIu; omega)]
              show _ = 1 + tsz L R sz k u k + _
              rw [ek, sj, hLj]; rfl
            · have hRj : R j = some u := by
                rcases hs2 with q | q
                · have := (h2 j u hj q).2.2.2; have := h1 u hIu; omega
                · exact q
              have x1 : tL L k u (if k < u then R k else L k) (U u) j = L j := by simp only [tL, hnl, if_false]; rw [if_neg jk, if_neg (by rintro ⟨a, b⟩; omega)]
              have x2 : tR R k u (if k < u then R k else L k) (U u) j = some k := by simp only [tR, hnl, if_false]; rw [if_neg ju, if_pos ⟨hg, by omega⟩]
              rw [x1, x2, tj, keep (L j) cl (fun e => by have := (h2 j u hj e).2.2.2; have := h1 u hIu; omega)]
              show _ = 1 + _ + tsz L R sz k u k
              rw [ek, sj, hRj]; rfl
          · have x1 : tL L k u (if k < u then R k else L k) (U u) j = L j := by simp only [tL, hnl, if_false]; rw [if_neg jk, if_neg (fun q => hg q.1)]
            have x2 : tR R k u (if k < u then R k else L k) (U u) j = R j := by simp only [tR, hnl, if_false]; rw [if_neg ju, if_neg (fun q => hg q.1)]
            rw [x1, x2, tj, sj, keep (L j) (fun e => by have := upL j k hj e; rw [hu] at this; cases this; exact ju rfl) (fun e => hg (upL j u hj e)), keep (R j) (fun e => by have := upR j k hj e; rw [hu] at this; cases this; exact ju rfl) (fun e => hg (upR j u hj e))]
  · have := (hs j).2 hj
    rw [tsz, if_neg (fun e => by rw [e, hk] at hj; cases hj), if_neg (fun e => by rw [e, hIu] at hj; cases hj)]
    exact this
end TN
