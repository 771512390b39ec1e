section RT
variable {t s : Nat} {x : Ob} {G : Gh} {c : Nat}
/-- how far the links of the two trees are laid -/
def spI (G : Gh) (c t s j : Nat) (x : Ob) : Prop := ∀ b, x.2 8 (tib t s b) = nI (cnt (cIb G c b) 0 j) ∧ (∀ k, k < j → cIb G c b k = true → x.2 4 (64 * tib t s b + k) = enc (cUb G c b k)) ∧
  (∀ e, cIb G c b e = true → x.2 5 (64 * tib t s b + e) = enc (fnd (chP (cIb G c b) (cUb G c b) e true) j)) ∧ (∀ e, cIb G c b e = true → x.2 6 (64 * tib t s b + e) = enc (fnd (chP (cIb G c b) (cUb G c b) e false) j)) ∧
  x.2 3 (tib t s b) = enc (fnd (rtP (cIb G c b) (cUb G c b)) j) ∧ (∀ k, k < 64 → x.2 7 (64 * tib t s b + k) = if cIb G c b k = true then 1 else 0)
theorem cnt_s0 (I : Nat → Bool) (j : Nat) : cnt I 0 (j + 1) = cnt I 0 j + (if I j = true then 1 else 0) := by rw [cnt_s, Nat.zero_add]
set_option maxHeartbeats 4000000 in
theorem sp_link (hw : GW G) (hts : t ≠ s) (ht : t < 8) (hs : s < 8) (hc : c < 64) : ∀ (m j n : Nat) (x : Ob), m + j = 64 → m < n → (∀ k, k < 64 → x.2 18 k = enc (cU G c k)) → spI G c t s j x →
    ∃ x', fX6_split_L208 n (nI t) (nI c) (nI s) (nI j) x = fX6_split_J358 (nI t) (nI s) x' ∧ Fr2 [] SC t s x x' ∧ (∀ d, d ∉ [3, 4, 5, 6, 8] → x'.2 d = x.2 d) ∧ spI G c t s 64 x' := by
  intro m
  induction m with
  | zero =>
    intro j n x h1 h2 h3 h4
    obtain ⟨n, rfl⟩ := Nat.exists_eq_succ_of_ne_zero (by omega : n ≠ 0)
    have : j = 64 := by omega
    subst this
    exact ⟨x, by rw [fX6_split_L208, if_pos (by decide)], Fr2.rf _ _ _ _ _, fun _ _ => rfl, h4⟩
  | succ m ih =>
    intro j n x h1 h2 h3 h4
    obtain ⟨n, rfl⟩ := Nat.exists_eq_succ_of_ne_zero (by omega : n ≠ 0)
    have hj : j < 64 := by omega
    obtain ⟨b, hb⟩ : ∃ b, b = decide (j < c) := ⟨_, rfl⟩
    have hb8 := tib_lt ht hs b
    have hto : fX6_split_L208 (n + 1) (nI t) (nI c) (nI s) (nI j) x = fX6_split_J226 (fX6_split_L208 n) (nI t) (nI c) (nI s) (nI j) (nI (tib t s b)) x := by
      rw [fX6_split_L208, if_neg (st64 hj)]
      by_cases w : c ≤ j
      · rw [if_pos (nI_le w (by omega)), hb, show decide (j < c) = false by simp; omega]; rfl
      · rw [if_neg (nI_ge (by omega) (by omega)), hb, show decide (j < c) = true by simp; omega]; rfl
    have e7 := (h4 b).2.2.2.2.2 j hj
    -- of the other tree it isn't
    have noP : ∀ (b' : Bool) (e : Nat) (d : Bool), cIb G c b' j = false → chP (cIb G c b') (cUb G c b') e d j = false := by
      intro b' e d h; unfold chP; rw [h]; rfl
    have noR : ∀ (b' : Bool), cIb G c b' j = false → rtP (cIb G c b') (cUb G c b') j = false := by
      intro b' h; unfold rtP; rw [h]; rfl
    have keepI : ∀ (b' : Bool), cIb G c b' j = false → ∀ x' : Ob, x'.2 8 (tib t s b') = x.2 8 (tib t s b') → (∀ d k, d ∈ [4, 5, 6, 7] → k < 64 → x'.2 d (64 * tib t s b' + k) = x.2 d (64 * tib t s b' + k)) → x'.2 3 (tib t s b') = x.2 3 (tib t s b') →
        (x'.2 8 (tib t s b') = nI (cnt (cIb G c b') 0 (j + 1)) ∧ (∀ k, k < j + 1 → cIb G c b' k = true → x'.2 4 (64 * tib t s b' + k) = enc (cUb G c b' k)) ∧
          (∀ e, cIb G c b' e = true → x'.2 5 (64 * tib t s b' + e) = enc (fnd (chP (cIb G c b') (cUb G c b') e true) (j + 1))) ∧ (∀ e, cIb G c b' e = true → x'.2 6 (64 * tib t s b' + e) = enc (fnd (chP (cIb G c b') (cUb G c b') e false) (j + 1))) ∧
          x'.2 3 (tib t s b') = enc (fnd (rtP (cIb G c b') (cUb G c b')) (j + 1)) ∧ (∀ k, k < 64 → x'.2 7 (64 * tib t s b' + k) = if cIb G c b' k = true then 1 else 0)) := by
      intro b' hf x' e8 e4 e3
      obtain ⟨a1, a2, a3, a4, a5, a6⟩ := h4 b'
      have k64 : ∀ k, cIb G c b' k = true → k < 64 := fun k hk => (hw.1 k (cIb_in hk).1).1
      refine ⟨?_, ?_, ?_, ?_, ?_, ?_⟩
      · rw [e8, a1, cnt_s0, if_neg (by rw [hf]; decide)]; rfl
      · intro k hk hI
        have : k ≠ j := fun e => by rw [e, hf] at hI; cases hI
        rw [e4 4 k (by decide) (k64 k hI)]; exact a2 k (by omega) hI
      · intro e he; rw [e4 5 e (by decide) (k64 e he), fnd_s, if_neg (by rw [noP b' e true hf]; decide)]; exact a3 e he
      · intro e he; rw [e4 6 e (by decide) (k64 e he), fnd_s, if_neg (by rw [noP b' e false hf]; decide)]; exact a4 e he
      · rw [e3, fnd_s, if_neg (by rw [noR b' hf]; decide)]; exact a5
      · intro k hk; rw [e4 7 k (by decide) hk]; exact a6 k hk
    cases q : cIb G c b j with
    | false =>
      have all : ∀ b', cIb G c b' j = false := fun b' => by
        cases w : cIb G c b' j with
        | false => rfl
        | true =>
          have := cIb_of (cIb_in w).1 hb
          rw [q] at this; cases this
      obtain ⟨x', f1, f2⟩ := ih (j + 1) n x (by omega) (by omega) h3 (fun b' => keepI b' (all b') x rfl (fun _ _ _ _ => rfl) rfl)
      refine ⟨x', ?_, f2⟩
      rw [q] at e7
      rw [hto, fX6_split_J226, ix6 hb8 hj, e7, show (if false = true then (1 : Int32) else 0) = 0 from rfl, if_pos rfl, fX6_split_J352, px_let, nI_1, f1]
    | true =>
      have other : ∀ b', b' ≠ b → cIb G c b' j = false := fun b' hne => by
        cases w : cIb G c b' j with
        | false => rfl
        | true => exact absurd (by rw [(cIb_in w).2, hb]) hne
      have hU : cUb G c b j = cU G c j := cUb_eq hb
      obtain ⟨a1, a2, a3, a4, a5, a6⟩ := h4 b
      rw [q] at e7
      have e18 : x.2 18 j = enc (cU G c j) := h3 j hj
      have unf : fX6_split_L208 (n + 1) (nI t) (nI c) (nI s) (nI j) x = (if 0 ≤ enc (cU G c j) then (if enc (cU G c j) ≤ nI j then ix ((64) * nI (tib t s b) + enc (cU G c j)) 512 (fun j351 => fX6_split_L208 n (nI t) (nI c) (nI s) (nI (j + 1)) (ob_a (ob_a (ob_a x 8 (tib t s b) (nI (cnt (cIb G c b) 0 j + 1))) 4 (64 * tib t s b + j) (enc (cU G c j))) 6 j351 (nI j))) else ix ((64) * nI (tib t s b) + enc (cU G c j)) 512 (fun j328 => fX6_split_L208 n (nI t) (nI c) (nI s) (nI (j + 1)) (ob_a (ob_a (ob_a x 8 (tib t s b) (nI (cnt (cIb G c b) 0 j + 1))) 4 (64 * tib t s b + j) (enc (cU G c j))) 5 j328 (nI j)))) else fX6_split_L208 n (nI t) (nI c) (nI s) (nI (j + 1)) (ob_a (ob_a (ob_a x 8 (tib t s b) (nI (cnt (cIb G c b) 0 j + 1))) 4 (64 * tib t s b + j) (enc (cU G c j))) 3 (tib t s b) (nI j))) := by
        have r18 : ∀ v w, (ob_a (ob_a x 8 (tib t s b) v) 4 (64 * tib t s b + j) w).2 18 = x.2 18 := fun v w => by rw [ar_n _ _ _ (by decide), ar_n _ _ _ (by decide)]
        have r18' : ∀ v, (ob_a x 8 (tib t s b) v).2 18 = x.2 18 := fun v => by rw [ar_n _ _ _ (by decide)]
        rw [hto, fX6_split_J226, ix6 hb8 hj, e7, show (if true = true then (1 : Int32) else 0) = 1 from rfl, if_neg (by decide), ix_nI hb8 (by decide), ix_nI hb8 (by decide), px_let, ix_nI hj (by decide), ix6 hb8 hj, px_let, ix_nI hj (by decide), r18', r18, e18, a1, nI_1]
        have ih : ∀ {β : Type} (K : Nat → Option β), ix (nI j) 64 K = K j := fun K => ix_nI hj (by decide)
        have ib : ∀ {β : Type} (K : Nat → Option β), ix (nI (tib t s b)) 8 K = K (tib t s b) := fun K => ix_nI hb8 (by decide)
        simp only [ih, ib, e18, px_let, fX6_split_J352, nI_1]
      have tbs : tib t s b = t ∨ tib t s b = s := by cases b <;> simp [tib]
      have fr2 : Fr2 [] SC t s x (ob_a (ob_a x 8 (tib t s b) (nI (cnt (cIb G c b) 0 j + 1))) 4 (64 * tib t s b + j) (enc (cU G c j))) := (Fr2.a _ _ _ (by decide) (tib_T (b := b) (inT1 (by decide) (by decide)))).tr (Fr2.a _ _ _ (by decide) (tib_T (b := b) (inT4 (by decide) hj)))
      have k64 : ∀ b' k, cIb G c b' k = true → k < 64 := fun b' k hk => (hw.1 k (cIb_in hk).1).1
      cases hu : cU G c j with
      | none =>
        rw [hu] at unf fr2
        rw [hu] at hU
        have hrt : rtP (cIb G c b) (cUb G c b) j = true := rtP_i.mpr ⟨q, hU⟩
        have nch : ∀ e d, chP (cIb G c b) (cUb G c b) e d j = false := by
          intro e d; unfold chP; rw [hU]; simp
        obtain ⟨x', f1, f2, f3, f4⟩ := ih (j + 1) n (ob_a (ob_a (ob_a x 8 (tib t s b) (nI (cnt (cIb G c b) 0 j + 1))) 4 (64 * tib t s b + j) (enc none)) 3 (tib t s b) (nI j)) (by omega) (by omega) (fun k hk => by rw [ar_n _ _ _ (by decide), ar_n _ _ _ (by decide), ar_n _ _ _ (by decide)]; exact h3 k hk) (fun b' => by
          by_cases eb : b' = b
          · subst eb
            refine ⟨?_, ?_, ?_, ?_, ?_, ?_⟩
            · rw [ga, if_neg (by omega), ga, if_neg (by omega), ga, if_pos ⟨rfl, rfl⟩, cnt_s0, if_pos q]
            · intro k hk hI
              rw [ga, if_neg (by omega), ga]
              by_cases e : k = j
              · rw [if_pos ⟨rfl, by rw [e]⟩, e, hU]
              · rw [if_neg (by omega), ga, if_neg (by omega)]; exact a2 k (by omega) hI
            · intro e he
              rw [ga, if_neg (by omega), ga, if_neg (by omega), ga, if_neg (by omega), fnd_s, if_neg (by rw [nch]; decide)]; exact a3 e he
            · intro e he
              rw [ga, if_neg (by omega), ga, if_neg (by omega), ga, if_neg (by omega), fnd_s, if_neg (by rw [nch]; decide)]; exact a4 e he
            · rw [ga, if_pos ⟨rfl, rfl⟩, fnd_s, if_pos hrt]; rfl
            · intro k hk
              rw [ga, if_neg (by omega), ga, if_neg (by omega), ga, if_neg (by omega)]; exact a6 k hk
          · have hne := tib_ne hts eb
            refine keepI b' (other b' eb) _ ?_ ?_ ?_
            · rw [ga, if_neg (by omega), ga, if_neg (by omega), ga, if_neg (by omega)]
            · intro d k hd hk
              simp at hd
              rw [ga, if_neg (by omega), ga, if_neg (by omega), ga, if_neg (by omega)]
            · rw [ga, if_neg (by omega), ga, if_neg (by omega), ga, if_neg (by omega)])
        refine ⟨x', ?_, (fr2.tr (Fr2.a _ _ _ (by decide) (tib_T (b := b) (inT1 (by decide) (by decide))))).tr f2, ?_, f4⟩
        · rw [unf, enc_n, if_neg (by decide)]; exact f1
        · intro d hd
          have hd' := hd
          simp at hd'
          rw [f3 d hd, ar_n _ _ _ (by omega), ar_n _ _ _ (by omega), ar_n _ _ _ (by omega)]
      | some e0 =>
        rw [hu] at unf fr2
        rw [hu] at hU
        obtain ⟨he0, hne0⟩ := cUb_par hw hc q hU
        have e064 := k64 b e0 he0
        have hrt : rtP (cIb G c b) (cUb G c b) j = false := by unfold rtP; rw [hU]; simp
        by_cases hlt : j < e0
        · have nch : ∀ e, chP (cIb G c b) (cUb G c b) e false j = false := by
            intro e
            cases w : chP (cIb G c b) (cUb G c b) e false j with
            | false => rfl
            | true => obtain ⟨w1, w2, w3⟩ := chP_r.mp w; rw [hU] at w2; cases w2; omega
          have nch2 : ∀ e, e ≠ e0 → chP (cIb G c b) (cUb G c b) e true j = false := by
            intro e hne
            cases w : chP (cIb G c b) (cUb G c b) e true j with
            | false => rfl
            | true => obtain ⟨w1, w2, w3⟩ := chP_l.mp w; rw [hU] at w2; cases w2; omega
          obtain ⟨x', f1, f2, f3, f4⟩ := ih (j + 1) n (ob_a (ob_a (ob_a x 8 (tib t s b) (nI (cnt (cIb G c b) 0 j + 1))) 4 (64 * tib t s b + j) (enc (some e0))) 5 (64 * tib t s b + e0) (nI j)) (by omega) (by omega) (fun k hk => by rw [ar_n _ _ _ (by decide), ar_n _ _ _ (by decide), ar_n _ _ _ (by decide)]; exact h3 k hk) (fun b' => by
            by_cases eb : b' = b
            · subst eb
              refine ⟨?_, ?_, ?_, ?_, ?_, ?_⟩
              · rw [ga, if_neg (by omega), ga, if_neg (by omega), ga, if_pos ⟨rfl, rfl⟩, cnt_s0, if_pos q]
              · intro k hk hI
                rw [ga, if_neg (by omega), ga]
                by_cases e : k = j
                · rw [if_pos ⟨rfl, by rw [e]⟩, e, hU]
                · rw [if_neg (by omega), ga, if_neg (by omega)]; exact a2 k (by omega) hI
              · intro e he
                rw [ga]
                by_cases w : e = e0
                · rw [if_pos ⟨rfl, by rw [w]⟩, fnd_s, if_pos (chP_l.mpr ⟨q, by rw [hU, w], by omega⟩)]; rfl
                · rw [if_neg (by omega), ga, if_neg (by omega), ga, if_neg (by omega), fnd_s, if_neg (by rw [nch2 e w]; decide)]; exact a3 e he
              · intro e he
                rw [ga, if_neg (by omega), ga, if_neg (by omega), ga, if_neg (by omega), fnd_s, if_neg (by rw [nch]; decide)]; exact a4 e he
              · rw [ga, if_neg (by omega), ga, if_neg (by omega), ga, if_neg (by omega), fnd_s, if_neg (by rw [hrt]; decide)]; exact a5
              · intro k hk
                rw [ga, if_neg (by omega), ga, if_neg (by omega), ga, if_neg (by omega)]; exact a6 k hk
            · have hne := tib_ne hts eb
              refine keepI b' (other b' eb) _ ?_ ?_ ?_
              · rw [ga, if_neg (by omega), ga, if_neg (by omega), ga, if_neg (by omega)]
              · intro d k hd hk
                simp at hd
                rw [ga, if_neg (by omega), ga, if_neg (by omega), ga, if_neg (by omega)]
              · rw [ga, if_neg (by omega), ga, if_neg (by omega), ga, if_neg (by omega)])
          refine ⟨x', ?_, (fr2.tr (Fr2.a _ _ _ (by decide) (tib_T (b := b) (inT4 (by decide) e064)))).tr f2, ?_, f4⟩
          · rw [unf, enc_s, if_pos (nI_pos' (by omega)), if_neg (nI_ge hlt (by omega)), ix6 hb8 e064]; exact f1
          · intro d hd
            have hd' := hd
            simp at hd'
            rw [f3 d hd, ar_n _ _ _ (by omega), ar_n _ _ _ (by omega), ar_n _ _ _ (by omega)]
        · have nch : ∀ e, chP (cIb G c b) (cUb G c b) e true j = false := by
            intro e
            cases w : chP (cIb G c b) (cUb G c b) e true j with
            | false => rfl
            | true => obtain ⟨w1, w2, w3⟩ := chP_l.mp w; rw [hU] at w2; cases w2; omega
          have nch2 : ∀ e, e ≠ e0 → chP (cIb G c b) (cUb G c b) e false j = false := by
            intro e hne
            cases w : chP (cIb G c b) (cUb G c b) e false j with
            | false => rfl
            | true => obtain ⟨w1, w2, w3⟩ := chP_r.mp w; rw [hU] at w2; cases w2; omega
          obtain ⟨x', f1, f2, f3, f4⟩ := ih (j + 1) n (ob_a (ob_a (ob_a x 8 (tib t s b) (nI (cnt (cIb G c b) 0 j + 1))) 4 (64 * tib t s b + j) (enc (some e0))) 6 (64 * tib t s b + e0) (nI j)) (by omega) (by omega) (fun k hk => by rw [ar_n _ _ _ (by decide), ar_n _ _ _ (by decide), ar_n _ _ _ (by decide)]; exact h3 k hk) (fun b' => by
            by_cases eb : b' = b
            · subst eb
              refine ⟨?_, ?_, ?_, ?_, ?_, ?_⟩
              · rw [ga, if_neg (by omega), ga, if_neg (by omega), ga, if_pos ⟨rfl, rfl⟩, cnt_s0, if_pos q]
              · intro k hk hI
                rw [ga, if_neg (by omega), ga]
                by_cases e : k = j
                · rw [if_pos ⟨rfl, by rw [e]⟩, e, hU]
                · rw [if_neg (by omega), ga, if_neg (by omega)]; exact a2 k (by omega) hI
              · intro e he
                rw [ga, if_neg (by omega), ga, if_neg (by omega), ga, if_neg (by omega), fnd_s, if_neg (by rw [nch]; decide)]; exact a3 e he
              · intro e he
                rw [ga]
                by_cases w : e = e0
                · rw [if_pos ⟨rfl, by rw [w]⟩, fnd_s, if_pos (chP_r.mpr ⟨q, by rw [hU, w], by omega⟩)]; rfl
                · rw [if_neg (by omega), ga, if_neg (by omega), ga, if_neg (by omega), fnd_s, if_neg (by rw [nch2 e w]; decide)]; exact a4 e he
              · rw [ga, if_neg (by omega), ga, if_neg (by omega), ga, if_neg (by omega), fnd_s, if_neg (by rw [hrt]; decide)]; exact a5
              · intro k hk
                rw [ga, if_neg (by omega), ga, if_neg (by omega), ga, if_neg (by omega)]; exact a6 k hk
            · have hne := tib_ne hts eb
              refine keepI b' (other b' eb) _ ?_ ?_ ?_
              · rw [ga, if_neg (by omega), ga, if_neg (by omega), ga, if_neg (by omega)]
              · intro d k hd hk
                simp at hd
                rw [ga, if_neg (by omega), ga, if_neg (by omega), ga, if_neg (by omega)]
              · rw [ga, if_neg (by omega), ga, if_neg (by omega), ga, if_neg (by omega)])
          refine ⟨x', ?_, (fr2.tr (Fr2.a _ _ _ (by decide) (tib_T (b := b) (inT4 (by decide) e064)))).tr f2, ?_, f4⟩
          · rw [unf, enc_s, if_pos (nI_pos' (by omega)), if_pos (nI_le (by omega) (by omega)), ix6 hb8 e064]; exact f1
          · intro d hd
            have hd' := hd
            simp at hd'
            rw [f3 d hd, ar_n _ _ _ (by omega), ar_n _ _ _ (by omega), ar_n _ _ _ (by omega)]
end RT
