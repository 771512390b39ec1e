/-- a leaf less -/
def dL (L : Nat → Option Nat) (k : Nat) : Nat → Option Nat := fun j => if j = k then none else if L j = some k then none else L j
def dU (U : Nat → Option Nat) (k : Nat) : Nat → Option Nat := fun j => if j = k then none else U j
def dI (I : Nat → Bool) (k : Nat) : Nat → Bool := fun j => if j = k then false else I j
def gdel (G : Gh) (k : Nat) : Gh := (dL (gL G) k, dL (gR G) k, dU (gU G) k, (if gU G k = none then none else gr G), dI (gI G) k, glo G, ghi G, ccz (dI (gI G) k) (glo G) (ghi G))
section RV
variable {t : Nat} {x x' y T z : Ob} {G : Gh} {tn : Int32}
theorem GW.nest (hw : GW G) {k : Nat} (hk : k < 64) : ∀ (m a b : Nat), onWay G k a → onWay G k b → wid G a ≤ wid G b → wid G b ≤ m + wid G a → glo G b ≤ glo G a ∧ ghi G a ≤ ghi G b := by
  intro m
  induction m with
  | zero =>
    intro a b oa ob h1 h2
    cases hU : gU G a with
    | none =>
      have r := hw.2.2.2.2.2.2.2.1 a (hw.2.2.2.2.2.1 a oa.1 hU)
      have b1 := hw.1 b ob.1
      unfold wid at *; omega
    | some u =>
      obtain ⟨o1, o2, o3⟩ := hw.up oa hU
      rcases hw.next hk oa hU ob (by omega) with e | e
      · rw [e]; exact ⟨Nat.le_refl _, Nat.le_refl _⟩
      · omega
  | succ m ih =>
    intro a b oa ob h1 h2
    cases hU : gU G a with
    | none =>
      have r := hw.2.2.2.2.2.2.2.1 a (hw.2.2.2.2.2.1 a oa.1 hU)
      have b1 := hw.1 b ob.1
      unfold wid at *; omega
    | some u =>
      obtain ⟨o1, o2, o3⟩ := hw.up oa hU
      by_cases q : wid G b < wid G u
      · rcases hw.next hk oa hU ob q with e | e
        · rw [e]; exact ⟨Nat.le_refl _, Nat.le_refl _⟩
        · omega
      · obtain ⟨i1, i2⟩ := ih u b o1 ob (by omega) (by omega)
        obtain ⟨-, -, -, hs⟩ := WF.side hw oa.1 hU
        have := hw.1 u o1.1
        omega
/-- who has k in its interval has also the one above k -/
theorem GW.anc (hw : GW G) {k u j : Nat} (hk : gI G k = true) (hu : gU G k = some u) (hj : onWay G k j) (hne : j ≠ k) : onWay G u j := by
  have bk := hw.1 k hk
  have ok : onWay G k k := ⟨hk, bk.2.1, bk.2.2.1⟩
  obtain ⟨o1, o2, o3⟩ := hw.up ok hu
  have hwj : wid G u ≤ wid G j := by
    rcases Nat.lt_or_ge (wid G j) (wid G u) with q | q
    · rcases hw.next bk.1 ok hu hj q with e | e
      · exact absurd e hne
      · -- k is the narrowest
        exfalso
        obtain ⟨n1, e1⟩ := pth_of hw 64 j hj (by omega)
        obtain ⟨n2, e2⟩ := pth_of hw 64 k ok (by omega)
        have s2 : pth G k (n2 + 1) = none := by rw [pth_s e2, if_neg (by omega), if_neg (by omega)]
        rcases Nat.lt_trichotomy n1 n2 with z | z | z
        · have := pth_wid hw bk.1 (n2 - n1 - 1) n1 j k e1 (by rw [show n1 + (n2 - n1 - 1 + 1) = n2 by omega]; exact e2)
          omega
        · rw [z, e2] at e1; exact hne (Option.some.inj e1).symm
        · have := pth_n s2 (n1 - n2 - 1)
          rw [show n2 + 1 + (n1 - n2 - 1) = n1 by omega, e1] at this; cases this
    · exact q
  obtain ⟨i1, i2⟩ := hw.nest bk.1 64 u j o1 hj hwj (by have := hw.w1 hj.1; omega)
  have bu := hw.1 u o1.1
  exact ⟨hj.1, by omega, by omega⟩
set_option maxHeartbeats 4000000 in
theorem GW.del (hw : GW G) {k : Nat} (hk : gI G k = true) (hL : gL G k = none) (hR : gR G k = none) : GW (gdel G k) := by
  obtain ⟨h1, h2, h3, h4, h5, h6, h7, h8, h9⟩ := hw
  have k4 := fun j => h4 k j hk hL
  have k5 := fun j => h5 k j hk hR
  have bk := h1 k hk
  refine ⟨?_, ?_, ?_, ?_, ?_, ?_, ?_, ?_, ?_⟩
  all_goals simp only [gdel, gL, gR, gU, gr, gI, glo, ghi, dL, dU, dI] at *
  · clear h2 h3 h4 h5 h6 h7 h8 h9 k4 k5; grind
  · clear h4 h5 h6 h9 k4 k5; grind
  · clear h4 h5 h6 h9 k4 k5; grind
  · intro m j hm hn hj hh
    have q4 := h4 m j
    have q2 := h2 m k
    have p4 := k4 j
    have p5 := k5 j
    clear h1 h2 h3 h4 h5 h6 h7 h8 h9 k4 k5
    grind
  · intro m j hm hn hj hh
    have q5 := h5 m j
    have q3 := h3 m k
    have p4 := k4 j
    have p5 := k5 j
    clear h1 h2 h3 h4 h5 h6 h7 h8 h9 k4 k5
    grind
  · clear h2 h3 h4 h5 k4 k5 h7 h9; grind
  · clear h4 h5 h6 h9 k4 k5; grind
  · clear h4 h5 h9 k4 k5; grind
  · intro hn j
    by_cases e : j = k
    · rw [if_pos e]
    · rw [if_neg e]
      by_cases hu : G.2.2.1 k = none
      · have hr := h8 k (h6 k hk hu)
        cases hI : G.2.2.2.2.1 j with
        | false => rfl
        | true =>
          have bj := h1 j hI
          have p4 := k4 j hI
          have p5 := k5 j hI
          omega
      · have hn2 : G.2.2.2.1 = none := by simpa [hu] using hn
        exact h9 hn2 j
theorem GN.del (hn : GN G) (hw : GW G) {k : Nat} : GN (gdel G k) := by
  intro j hj
  have hj : dI (gI G) k j = false := hj
  by_cases e : j = k
  · refine ⟨?_, ?_, ?_⟩
    · show dL (gL G) k j = none; rw [dL, if_pos e]
    · show dL (gR G) k j = none; rw [dL, if_pos e]
    · show dU (gU G) k j = none; rw [dU, if_pos e]
  · rw [dI, if_neg e] at hj
    obtain ⟨a1, a2, a3⟩ := hn j hj
    refine ⟨?_, ?_, ?_⟩
    · show dL (gL G) k j = none; rw [dL, if_neg e, a1, if_neg (by simp)]
    · show dL (gR G) k j = none; rw [dL, if_neg e, a2, if_neg (by simp)]
    · show dU (gU G) k j = none; rw [dU, if_neg e]; exact a3
/-- the class takes a leaf off -/
theorem rs_forget {L R U : Nat → Option Nat} {sz : Nat → Nat} {rt : Option Nat} (h : RepS y L R U sz rt tn) {k : Nat} (hk : k < 64) : ∃ y', fX3_forget (nI k) y = some y' ∧ RepS y' (va_up L k none) (va_up R k none) (va_up U k none) (va_up sz k 0) rt tn ∧ y'.2 4 = y.2 4 := by
  have e1 : fX3_forget (nI k) y = some (ob_f (ob_f (ob_f (ob_f y 0 (upd (y.2 0) k (-1))) 1 (upd (y.2 1) k (-1))) 2 (upd (y.2 2) k (-1))) 3 (upd (y.2 3) k 0)) := by
    rw [fX3_forget, put_in hk (by decide), Option.bind_some, px_let, put_in hk (by decide), Option.bind_some, px_let, put_in hk (by decide), Option.bind_some, px_let, put_in hk (by decide), Option.bind_some, px_let]; rfl
  refine ⟨_, e1, ⟨?_, ?_, ?_, ?_, h.2.2.2.2.1, h.2.2.2.2.2⟩, rfl⟩
  · exact op_enc h.1 (some k) none
  · exact op_enc h.2.1 (some k) none
  · exact op_enc h.2.2.1 (some k) none
  · intro j hj
    show upd (y.2 3) k 0 j = nI (va_up sz k 0 j)
    rw [upd_at, vup_at]
    by_cases e : j = k
    · rw [if_pos e, if_pos e]; rfl
    · rw [if_neg e, if_neg e]; exact h.2.2.2.1 j hj
theorem rs_rsz0 (v : Int32) : fX3_resizeUpFrom (-1) y = some y := by
  rw [fX3_resizeUpFrom, fu_s, fX3_resizeUpFrom_L4, if_neg (by decide), if_pos rfl]
theorem GS.del {k : Nat} (h : GW (gdel G k)) : GS (gdel G k) := sz_ccz h
theorem rs_takeOff (hw : GW G) (hn : GN G) (hs : GS G) (hr : RepS y (gL G) (gR G) (gU G) (gs G) (gr G) tn) {k : Nat} (hk : gI G k = true) (hL : gL G k = none) (hR : gR G k = none) : ∃ y', fX3_takeOff (nI k) y = some y' ∧ RepS y' (gL (gdel G k)) (gR (gdel G k)) (gU (gdel G k)) (gs (gdel G k)) (gr (gdel G k)) tn ∧ y'.2 4 = y.2 4 := by
  have hk64 := (hw.1 k hk).1
  have hw2 := hw.del hk hL hR
  have hn2 := GN.del (k := k) hn hw
  have e1 : fX3_upOf (nI k) y = some (enc (gU G k)) := by
    have := rs_up hr (Bd_s hk64); rw [enc_s, Option.bind_some] at this; exact this
  have szr : ∀ j, (j = k ∨ ¬ onWay G k j) → va_up (gs G) k 0 j = gs (gdel G k) j := by
    intro j hj
    show _ = ccz (dI (gI G) k) (glo G) (ghi G) j
    rw [vup_at, ccz]
    by_cases e : j = k
    · rw [if_pos e, if_neg (by rw [dI, if_pos e]; decide)]
    · rw [if_neg e, sz_eq hw hs, ccz, show dI (gI G) k j = gI G j by rw [dI, if_neg e]]
      by_cases q : gI G j = true
      · rw [if_pos q, if_pos q]
        refine cnt_cong (fun i h1 h2 => ?_)
        have bj := hw.1 j q
        rw [dI, if_neg (fun z => by rcases hj with w | w; exact e w; exact w ⟨q, by omega, by omega⟩)]
      · rw [if_neg q, if_neg q]
  cases hU : gU G k with
  | none =>
    have hr1 : RepS (ob_i y 5 (-1)) (gL G) (gR G) (gU G) (gs G) none tn := ⟨hr.1, hr.2.1, hr.2.2.1, hr.2.2.2.1, rfl, hr.2.2.2.2.2⟩
    obtain ⟨y1, f1, r1, o1⟩ := rs_forget hr1 hk64
    have hroot := hw.2.2.2.2.2.2.2.1 k (hw.2.2.2.2.2.1 k hk hU)
    refine ⟨y1, ?_, ?_, o1⟩
    · rw [fX3_takeOff, e1, Option.bind_some, hU, enc_n, if_pos rfl, px_let, fX3_takeOff_J45, f1, Option.bind_some, rs_rsz0 0]; rfl
    · refine RepS.congr r1 (fun j hj => ?_) (fun j hj => ?_) (fun j hj => rfl) (fun j hj => szr j ?_) ?_ rfl
      · show va_up (gL G) k none j = dL (gL G) k j
        rw [vup_at, dL]
        by_cases e : j = k
        · rw [if_pos e, if_pos e]
        · rw [if_neg e, if_neg e, if_neg]
          intro q
          cases hIj : gI G j with
          | false => rw [(hn j hIj).1] at q; cases q
          | true => have := (hw.2.1 j k hIj q).2.1; rw [hU] at this; cases this
      · show va_up (gR G) k none j = dL (gR G) k j
        rw [vup_at, dL]
        by_cases e : j = k
        · rw [if_pos e, if_pos e]
        · rw [if_neg e, if_neg e, if_neg]
          intro q
          cases hIj : gI G j with
          | false => rw [(hn j hIj).2.1] at q; cases q
          | true => have := (hw.2.2.1 j k hIj q).2.1; rw [hU] at this; cases this
      · by_cases e : j = k
        · exact Or.inl e
        · refine Or.inr (fun o => ?_)
          have p4 := hw.2.2.2.1 k j hk hL o.1
          have p5 := hw.2.2.2.2.1 k j hk hR o.1
          have bj := hw.1 j o.1
          omega
      · show none = if gU G k = none then none else gr G
        rw [if_pos hU]
  | some u =>
    obtain ⟨hIu, hu64, -, hside⟩ := WF.side hw hk hU
    have huk : u ≠ k := by omega
    have hIu2 : gI (gdel G k) u = true := by show dI (gI G) k u = true; rw [dI, if_neg huk]; exact hIu
    -- the link to k is cut
    have cut : ∃ y0, (fX3_takeOff (nI k) y = fX3_takeOff_J45 (nI k) (nI u) y0) ∧ RepS y0 (fun j => if gL G j = some k then none else gL G j) (fun j => if gR G j = some k then none else gR G j) (gU G) (gs G) (gr G) tn ∧ y0.2 4 = y.2 4 := by
      have nL : ∀ j, gL G j = some k → j = u := fun j q => by
        cases hIj : gI G j with
        | false => rw [(hn j hIj).1] at q; cases q
        | true => have := (hw.2.1 j k hIj q).2.1; rw [hU] at this; exact (Option.some.inj this).symm
      have nR : ∀ j, gR G j = some k → j = u := fun j q => by
        cases hIj : gI G j with
        | false => rw [(hn j hIj).2.1] at q; cases q
        | true => have := (hw.2.2.1 j k hIj q).2.1; rw [hU] at this; exact (Option.some.inj this).symm
      rcases hside with ⟨hlt, hLu, i1, i2⟩ | ⟨hlt, hRu, i1, i2⟩
      · refine ⟨ob_f y 0 (upd (y.2 0) u (-1)), ?_, ⟨?_, ?_, hr.2.2.1, hr.2.2.2.1, hr.2.2.2.2.1, hr.2.2.2.2.2⟩, rfl⟩
        · rw [fX3_takeOff, e1, Option.bind_some, hU, enc_s, if_neg (nI_ne_m1 (by omega)), if_neg (nI_ge hlt (by omega)), put_in hu64 (by decide), Option.bind_some, px_let]
        · intro j hj
          show upd (y.2 0) u (-1) j = enc (if gL G j = some k then none else gL G j)
          rw [upd_at]
          by_cases e : j = u
          · rw [if_pos e, if_pos (by rw [e]; exact hLu)]; rfl
          · rw [if_neg e, if_neg (fun q => e (nL j q))]; exact hr.1 j hj
        · intro j hj
          show y.2 1 j = enc (if gR G j = some k then none else gR G j)
          rw [if_neg (fun q => by have e := nR j q; rw [e] at q; have := (hw.2.2.1 u k hIu q).2.2.1; have := hw.1 k hk; omega)]; exact hr.2.1 j hj
      · refine ⟨ob_f y 1 (upd (y.2 1) u (-1)), ?_, ⟨?_, ?_, hr.2.2.1, hr.2.2.2.1, hr.2.2.2.2.1, hr.2.2.2.2.2⟩, rfl⟩
        · rw [fX3_takeOff, e1, Option.bind_some, hU, enc_s, if_neg (nI_ne_m1 (by omega)), if_pos (nI_le (by omega) (by omega)), put_in hu64 (by decide), Option.bind_some, px_let]
        · intro j hj
          show y.2 0 j = enc (if gL G j = some k then none else gL G j)
          rw [if_neg (fun q => by have e := nL j q; rw [e] at q; have := (hw.2.1 u k hIu q).2.2.2; have := hw.1 k hk; omega)]; exact hr.1 j hj
        · intro j hj
          show upd (y.2 1) u (-1) j = enc (if gR G j = some k then none else gR G j)
          rw [upd_at]
          by_cases e : j = u
          · rw [if_pos e, if_pos (by rw [e]; exact hRu)]; rfl
          · rw [if_neg e, if_neg (fun q => e (nR j q))]; exact hr.2.1 j hj
    obtain ⟨y0, c1, c2, c3⟩ := cut
    obtain ⟨y1, f1, r1, o1⟩ := rs_forget c2 hk64
    have r1' : RepS y1 (gL (gdel G k)) (gR (gdel G k)) (gU (gdel G k)) (va_up (gs G) k 0) (gr (gdel G k)) tn := by
      refine RepS.congr r1 (fun j hj => ?_) (fun j hj => ?_) (fun j hj => rfl) (fun j hj => rfl) ?_ rfl
      · show va_up _ k none j = dL (gL G) k j
        rw [vup_at, dL]
      · show va_up _ k none j = dL (gR G) k j
        rw [vup_at, dL]
      · show gr G = if gU G k = none then none else gr G
        rw [if_neg (by rw [hU]; simp)]
    obtain ⟨y2, f2, r2, o2⟩ := rs_rsz hw2 hn2 (GS.del hw2) hIu2 r1' (fun j hj => szr j (by
      by_cases e : j = k
      · exact Or.inl e
      · refine Or.inr (fun o => hj ?_)
        obtain ⟨p1, p2, p3⟩ := hw.anc hk hU o e
        exact ⟨by show dI (gI G) k j = true; rw [dI, if_neg e]; exact p1, p2, p3⟩))
    refine ⟨y2, ?_, r2, o2.trans (o1.trans c3)⟩
    rw [c1, fX3_takeOff_J45, f1, Option.bind_some, f2]; rfl
end RV
section R2
variable {t : Nat} {x x' y T z : Ob} {G : Gh} {tn : Int32}
theorem cnt_del {I : Nat → Bool} {k : Nat} (hk : k < 64) (hI : I k = true) : cnt (dI I k) 0 64 + 1 = cnt I 0 64 := by
  have e : (64 : Nat) = k + (1 + (63 - k)) := by omega
  have s : ∀ J : Nat → Bool, cnt J 0 64 = cnt J 0 k + (cnt J k 1 + cnt J (k + 1) (63 - k)) := fun J => by
    conv => lhs; rw [e]
    rw [cnt_split, cnt_split, Nat.zero_add]
  rw [s, s]
  have e1 : cnt (dI I k) 0 k = cnt I 0 k := cnt_cong (fun j _ h => by rw [dI, if_neg (by omega)])
  have e2 : cnt (dI I k) (k + 1) (63 - k) = cnt I (k + 1) (63 - k) := cnt_cong (fun j h _ => by rw [dI, if_neg (by omega)])
  have e3 : cnt (dI I k) k 1 = 0 := by rw [cnt_s, Nat.add_zero, if_neg (by rw [dI, if_pos rfl]; decide)]; rfl
  have e4 : cnt I k 1 = 1 := by rw [cnt_s, Nat.add_zero, if_pos hI]; rfl
  rw [e1, e2, e3, e4]; omega
/-- the reference takes a leaf off -/
theorem rm_takeOff (hw : GW G) (hr : RepM x t (gL G) (gR G) (gU G) (gr G) (gI G)) (ht : t < 8) {k : Nat} (hk : gI G k = true) : ∃ x1, fX6_takesPlace (nI t) (nI k) (-1) x = some x1 ∧ RepM (ob_a (ob_a x1 7 (64 * t + k) 0) 8 t (x.2 8 t - 1)) t (gL (gdel G k)) (gR (gdel G k)) (gU (gdel G k)) (gr (gdel G k)) (gI (gdel G k)) ∧ x1.2 8 = x.2 8 ∧ Fr [] [3, 4, 5, 6] t x x1 := by
  have hk64 := (hw.1 k hk).1
  obtain ⟨x1, f1, a1, a2, a3, a4, a5, a6⟩ := rm_tp hw hr ht hk Bd_n
  obtain ⟨b7, b5, b6, b4, b3⟩ := hr
  refine ⟨x1, f1, ⟨?_, ?_, ?_, ?_, ?_⟩, a6.2.1 8 (by decide), a6⟩
  · intro j hj
    rw [sl_n _ _ _ _ (by decide), sl_a, upd_at, a4]
    show _ = if dI (gI G) k j = true then 1 else 0
    rw [dI]
    by_cases e : j = k
    · rw [if_pos e, if_pos e, if_neg (by decide)]
    · rw [if_neg e, if_neg e]; exact b7 j hj
  · intro j hj
    have hj : dI (gI G) k j = true := hj
    have ej : j ≠ k := fun e => by rw [dI, if_pos e] at hj; cases hj
    rw [dI, if_neg ej] at hj
    rw [sl_n _ _ _ _ (by decide), sl_n _ _ _ _ (by decide), a1]
    show _ = enc (dL (gL G) k j)
    rw [dL, if_neg ej]
    by_cases q : gL G j = some k
    · obtain ⟨-, c2, -, c4⟩ := hw.2.1 j k hj q
      have := hw.1 k hk
      rw [if_pos ⟨c2, by omega⟩, if_pos q]
    · rw [if_neg q, if_neg]
      · exact b5 j hj
      · rintro ⟨c1, c2⟩
        obtain ⟨-, -, -, hs⟩ := WF.side hw hk c1
        rcases hs with s | s
        · exact q s.2.1
        · omega
  · intro j hj
    have hj : dI (gI G) k j = true := hj
    have ej : j ≠ k := fun e => by rw [dI, if_pos e] at hj; cases hj
    rw [dI, if_neg ej] at hj
    rw [sl_n _ _ _ _ (by decide), sl_n _ _ _ _ (by decide), a2]
    show _ = enc (dL (gR G) k j)
    rw [dL, if_neg ej]
    by_cases q : gR G j = some k
    · obtain ⟨-, c2, c3, -⟩ := hw.2.2.1 j k hj q
      have := hw.1 k hk
      rw [if_pos ⟨c2, by omega⟩, if_pos q]
    · rw [if_neg q, if_neg]
      · exact b6 j hj
      · rintro ⟨c1, c2⟩
        obtain ⟨-, -, -, hs⟩ := WF.side hw hk c1
        rcases hs with s | s
        · omega
        · exact q s.2.1
  · intro j hj
    have hj : dI (gI G) k j = true := hj
    have ej : j ≠ k := fun e => by rw [dI, if_pos e] at hj; cases hj
    rw [dI, if_neg ej] at hj
    rw [sl_n _ _ _ _ (by decide), sl_n _ _ _ _ (by decide), a3]
    show sl x 4 t j = enc (dU (gU G) k j)
    rw [dU, if_neg ej]; exact b4 j hj
  · rw [ar_n _ _ _ (by decide), ar_n _ _ _ (by decide), a5]
    show _ = enc (if gU G k = none then none else gr G)
    by_cases q : gU G k = none
    · rw [if_pos q, if_pos q]
    · rw [if_neg q, if_neg q]; exact b3
end R2
