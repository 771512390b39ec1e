def fX6_join_J218 (k114 : Int32 → Int32 → Int32 → Int32 → Ob → Option (Int32 × Ob)) (v1 : Int32) (v2 : Int32) (v3 : Int32) (v4 : Int32) (x : Ob) : Option (Int32 × Ob) :=
  px_let (v4 + (1) : Int32) (fun b218 =>
  k114 v1 v2 v3 b218 x)
def fX6_join_J376 (v2 : Int32) (s0 : Int32) (s1 : Int32) (x : Ob) : Option (Int32 × Ob) :=
  ix s0 8 (fun j376 =>
  px_let (ob_a x 11 j376 s1) (fun x_376 =>
  ix v2 8 (fun j383 =>
  px_let (ob_a x_376 11 j383 (0)) (fun x_383 =>
  some ((1), x_383)))))
def fX6_join_J322 (v1 : Int32) (v2 : Int32) (x : Ob) : Option (Int32 × Ob) :=
  ix v1 8 (fun j328 =>
  ix v2 8 (fun j334 =>
  ix v1 8 (fun j336 =>
  px_let (ob_a x 8 j336 ((x.2 8 j328) + (x.2 8 j334))) (fun x_336 =>
  ix v2 8 (fun j343 =>
  px_let (ob_a x_336 8 j343 (0)) (fun x_343 =>
  ix v2 8 (fun j350 =>
  px_let (ob_a x_343 3 j350 (-1)) (fun x_350 =>
  ix v1 8 (fun j361 =>
  (if (x_350.2 2 j361) = (4) then
    ix v1 8 (fun j371 =>
    fX6_join_J376 v2 v1 ((x_350.2 8 j371)) x_350)
  else
    fX6_join_J376 v2 v1 (0) x_350))))))))))
def fX6_join_J224 (v1 : Int32) (v2 : Int32) (v3 : Int32) (x : Ob) : Option (Int32 × Ob) :=
  ix v2 8 (fun j229 =>
  (if (x.2 3 j229) < 0 then
    fX6_join_J322 v1 v2 x
  else
    ix v1 8 (fun j238 =>
    (if 0 ≤ (x.2 3 j238) then
      ix v1 8 (fun j262 =>
      (if (x.2 2 j262) = (5) then
        ix v1 8 (fun j279 =>
        ix v2 8 (fun j285 =>
        Option.bind (fX6_heaps RD v1 (x.2 3 j279) (x.2 3 j285) x) (fun q286 =>
        ix v1 8 (fun j289 =>
        px_let (ob_a q286.2 3 j289 q286.1) (fun x_289 =>
        ix v1 8 (fun j303 =>
        ix (((64) * v1) + (x_289.2 3 j303)) 512 (fun j306 =>
        px_let (ob_a x_289 4 j306 (-1)) (fun x_306 =>
        fX6_join_J322 v1 v2 x_306))))))))
      else
        ix v2 8 (fun j317 =>
        Option.bind (fX6_hangsRight v1 (x.2 3 j317) v3 x) (fun q319 =>
        fX6_join_J322 v1 v2 q319))))
    else
      ix v2 8 (fun j252 =>
      ix v1 8 (fun j253 =>
      px_let (ob_a x 3 j253 (x.2 3 j252)) (fun x_253 =>
      fX6_join_J322 v1 v2 x_253)))))))
def fX6_join_L114 : Nat → Int32 → Int32 → Int32 → Int32 → Ob → Option (Int32 × Ob)
  | 0, _, _, _, _, _ => none
  | n + 1, v1, v2, v3, v4, x =>
  (if (64) ≤ v4 then
    fX6_join_J224 v1 v2 v3 x
  else
    px_let ((((64) * v2) + v4) : Int32) (fun b128 =>
    ix b128 512 (fun j136 =>
    (if (x.2 7 j136) = 0 then
      fX6_join_J218 (fX6_join_L114 n) v1 v2 v3 v4 x
    else
      ix (((64) * v1) + v4) 512 (fun j152 =>
      px_let (ob_a x 7 j152 (vp_nar .boolean (1))) (fun x_152 =>
      ix b128 512 (fun j170 =>
      ix (((64) * v1) + v4) 512 (fun j171 =>
      px_let (ob_a x_152 4 j171 (x_152.2 4 j170)) (fun x_171 =>
      ix b128 512 (fun j189 =>
      ix (((64) * v1) + v4) 512 (fun j190 =>
      px_let (ob_a x_171 5 j190 (x_171.2 5 j189)) (fun x_190 =>
      ix b128 512 (fun j208 =>
      ix (((64) * v1) + v4) 512 (fun j209 =>
      px_let (ob_a x_190 6 j209 (x_190.2 6 j208)) (fun x_209 =>
      ix b128 512 (fun j217 =>
      px_let (ob_a x_209 7 j217 (vp_nar .boolean (0))) (fun x_217 =>
      fX6_join_J218 (fX6_join_L114 n) v1 v2 v3 v4 x_217)))))))))))))))))
def fX6_join_J111 (v1 : Int32) (v2 : Int32) (v3 : Int32) (x : Ob) : Option (Int32 × Ob) :=
  fX6_join_L114 FU v1 v2 v3 (0) x
def fX6_join_J76 (v1 : Int32) (v2 : Int32) (x : Ob) : Option (Int32 × Ob) :=
  Option.bind (fX6_greatest v1 x) (fun q78 =>
  (if q78 < 0 then
    fX6_join_J111 v1 v2 q78 x
  else
    ix v1 8 (fun j91 =>
    (if (x.2 2 j91) = (5) then
      fX6_join_J111 v1 v2 q78 x
    else
      ix v2 8 (fun j101 =>
      (if (x.2 8 j101) ≤ 0 then
        fX6_join_J111 v1 v2 q78 x
      else
        Option.bind (fX6_rises v1 q78 x) (fun q108 =>
        fX6_join_J111 v1 v2 q78 q108)))))))
def fX6_join (p1 : Int32) (p2 : Int32) (x : Ob) : Option (Int32 × Ob) :=
  px_let (ob_i x 0 (0)) (fun x_2 =>
  Option.bind (fX6_isTree p1 x_2) (fun q7 =>
  (if q7 = 0 then
    some ((0), x_2)
  else
    Option.bind (fX6_isTree p2 x_2) (fun q15 =>
    (if q15 = 0 then
      some ((0), x_2)
    else
      (if p1 = p2 then
        some ((0), x_2)
      else
        ix p1 8 (fun j31 =>
        ix p2 8 (fun j37 =>
        (if (x_2.2 2 j31) = (x_2.2 2 j37) then
          ix p1 8 (fun j48 =>
          (if (x_2.2 8 j48) ≤ 0 then
            fX6_join_J76 p1 p2 x_2
          else
            ix p2 8 (fun j57 =>
            (if (x_2.2 8 j57) ≤ 0 then
              fX6_join_J76 p1 p2 x_2
            else
              Option.bind (fX6_greatest p1 x_2) (fun q63 =>
              Option.bind (fX6_smallest p2 x_2) (fun q68 =>
              (if q63 < q68 then
                fX6_join_J76 p1 p2 x_2
              else
                some ((0), x_2))))))))
        else
          some ((0), x_2))))))))))
abbrev rmX6_join : Room := { frames := 72, cells := 0, slots := 0, locals := 1656 }
set_option maxHeartbeats 4000000 in
set_option maxRecDepth 100000 in
theorem ok_X6_join {l : Launch} {E : En} {o : Nat} {ad : (Nat → Nat)} {p1 : Int32} {p2 : Int32} {x : Ob} {r : Int32 × Ob} (hf : fX6_join p1 p2 x = some r) : CI l yX6_join wsX6_join (rmX6_join) [.ref o, .int p1, .int p2] E (w6 E o ad x) (w6 E o ad r.2) (r.1) := by
  refine xc_I (by decide) rfl (Nat.le_of_ble_eq_true rfl) [(0, .ref o), (1, .int p1), (2, .int p2)] rfl (fun p e s m below meth c A C hr => ?_)
  generalize ([.ref o, .int p1, .int p2] : List Value).toArray = args at C ⊢
  obtain ⟨Z, hZ⟩ : ∃ Z, Z = ZI E (w6 E o ad r.2) (r.1) A below args s 0 0 := ⟨_, rfl⟩
  rw [← hZ]
  have in6 : ∀ w ∈ wsX60, w ∈ wsX6_join := by decide +kernel
  have m7 : Cond.fieldLink RX6 7 "TurningTreesModel" "kind" "[I" ∈ wsX6_join := by decide +kernel
  have m13 : Cond.fieldLink RX6 13 "TurningTreesModel" "root" "[I" ∈ wsX6_join := by decide +kernel
  have m16 : Cond.fieldLink RX6 16 "TurningTreesModel" "above" "[I" ∈ wsX6_join := by decide +kernel
  have m19 : Cond.fieldLink RX6 19 "TurningTreesModel" "left" "[I" ∈ wsX6_join := by decide +kernel
  have m22 : Cond.fieldLink RX6 22 "TurningTreesModel" "right" "[I" ∈ wsX6_join := by decide +kernel
  have m25 : Cond.fieldLink RX6 25 "TurningTreesModel" "isIn" "[Z" ∈ wsX6_join := by decide +kernel
  have m29 : Cond.fieldLink RX6 29 "TurningTreesModel" "many" "[I" ∈ wsX6_join := by decide +kernel
  have m38 : Cond.fieldLink RX6 38 "TurningTreesModel" "most" "[I" ∈ wsX6_join := by decide +kernel
  have m77 : Cond.fieldLink RX6 77 "TurningTreesModel" "thrown" "I" ∈ wsX6_join := by decide +kernel
  have hJ218 : ∀ (k114 : Int32 → Int32 → Int32 → Int32 → Ob → Option (Int32 × Ob)), (∀ (v1 : Int32), ∀ (v2 : Int32), ∀ (v3 : Int32), ∀ (v4 : Int32), ∀ (x : Ob), k114 v1 v2 v3 v4 x = some r → XW E p l e rmX6_join s m args below meth c Z A 0 0 (w6 E o ad x) 114 6 [(0, .ref o), (1, .int v1), (2, .int v2), (3, .int v3), (4, .int v4)] []) → ∀ (v1 : Int32), ∀ (v2 : Int32), ∀ (v3 : Int32), ∀ (v4 : Int32), ∀ (x : Ob), fX6_join_J218 k114 v1 v2 v3 v4 x = some r → XW E p l e rmX6_join s m args below meth c Z A 0 0 (w6 E o ad x) 218 6 [(0, .ref o), (1, .int v1), (2, .int v2), (3, .int v3), (4, .int v4)] [] := by
    intro k114 hk114 v1 v2 v3 v4 x h
    rw [fX6_join_J218] at h
    refine px_n h (fun b218 eb218 h => ?_)
    refine xw_iinc (v := b218) C dX6_join_218 4 rfl eb218 (by decide) (lv' := [(4, .int b218), (0, .ref o), (1, .int v1), (2, .int v2), (3, .int v3)]) rfl ?_
    refine xw_goto C 114 dX6_join_221 (by decide) ?_
    refine xw_perm [1, 2, 3, 4, 0] rfl ?_
    exact hk114 _ _ _ _ _ h
  have hJ376 : ∀ (v2 : Int32), ∀ (s0 : Int32), ∀ (s1 : Int32), ∀ (x : Ob), fX6_join_J376 v2 s0 s1 x = some r → XW E p l e rmX6_join s m args below meth c Z A 0 0 (w6 E o ad x) 376 6 [(0, .ref o), (2, .int v2)] [.int s1, .int s0, .ref (ad 11)] := by
    intro v2 s0 s1 x h
    rw [fX6_join_J376] at h
    obtain ⟨g376, h⟩ := px_x h
    refine px_n h (fun x_376 ex_376 h => ?_)
    refine xw_iast (w' := w6 E o ad x_376) C 10 rfl g376 (by rw [ex_376]; rfl) dX6_join_376 ?_
    refine xw_aload_n C dX6_join_377 rfl 0 rfl ?_
    refine xw_get C in6 0 rfl rfl 11 (by decide) m38 rfl rfl dX6_join_378 ?_
    refine xw_iload_n C dX6_join_381 rfl 1 rfl ?_
    refine xw_iconst C (0) dX6_join_382 (by decide) ?_
    obtain ⟨g383, h⟩ := px_x h
    refine px_n h (fun x_383 ex_383 h => ?_)
    refine xw_iast (w' := w6 E o ad x_383) C 10 rfl g383 (by rw [ex_383]; rfl) dX6_join_383 ?_
    refine xw_iconst C (1) dX6_join_384 (by decide) ?_
    cases h
    rw [hZ]
    exact xw_zret C hr (Or.inr rfl) dX6_join_385
  have hJ322 : ∀ (v1 : Int32), ∀ (v2 : Int32), ∀ (x : Ob), fX6_join_J322 v1 v2 x = some r → XW E p l e rmX6_join s m args below meth c Z A 0 0 (w6 E o ad x) 322 6 [(0, .ref o), (1, .int v1), (2, .int v2)] [] := by
    intro v1 v2 x h
    rw [fX6_join_J322] at h
    refine xw_aload_n C dX6_join_322 rfl 0 rfl ?_
    refine xw_get C in6 0 rfl rfl 8 (by decide) m29 rfl rfl dX6_join_323 ?_
    refine xw_iload_n C dX6_join_326 rfl 1 rfl ?_
    refine xw_dup2 C dX6_join_327 rfl rfl ?_
    obtain ⟨g328, h⟩ := px_x h
    refine xw_iald C 7 rfl g328 dX6_join_328 ?_
    refine xw_aload_n C dX6_join_329 rfl 0 rfl ?_
    refine xw_get C in6 0 rfl rfl 8 (by decide) m29 rfl rfl dX6_join_330 ?_
    refine xw_iload_n C dX6_join_333 rfl 2 rfl ?_
    obtain ⟨g334, h⟩ := px_x h
    refine xw_iald C 7 rfl g334 dX6_join_334 ?_
    refine xw_iadd C dX6_join_335 ?_
    obtain ⟨g336, h⟩ := px_x h
    refine px_n h (fun x_336 ex_336 h => ?_)
    refine xw_iast (w' := w6 E o ad x_336) C 7 rfl g336 (by rw [ex_336]; rfl) dX6_join_336 ?_
    refine xw_aload_n C dX6_join_337 rfl 0 rfl ?_
    refine xw_get C in6 0 rfl rfl 8 (by decide) m29 rfl rfl dX6_join_338 ?_
    refine xw_iload_n C dX6_join_341 rfl 2 rfl ?_
    refine xw_iconst C (0) dX6_join_342 (by decide) ?_
    obtain ⟨g343, h⟩ := px_x h
    refine px_n h (fun x_343 ex_343 h => ?_)
    refine xw_iast (w' := w6 E o ad x_343) C 7 rfl g343 (by rw [ex_343]; rfl) dX6_join_343 ?_
    refine xw_aload_n C dX6_join_344 rfl 0 rfl ?_
    refine xw_get C in6 0 rfl rfl 3 (by decide) m13 rfl rfl dX6_join_345 ?_
    refine xw_iload_n C dX6_join_348 rfl 2 rfl ?_
    refine xw_iconst C (-1) dX6_join_349 (by decide) ?_
    obtain ⟨g350, h⟩ := px_x h
    refine px_n h (fun x_350 ex_350 h => ?_)
    refine xw_iast (w' := w6 E o ad x_350) C 2 rfl g350 (by rw [ex_350]; rfl) dX6_join_350 ?_
    refine xw_aload_n C dX6_join_351 rfl 0 rfl ?_
    refine xw_get C in6 0 rfl rfl 11 (by decide) m38 rfl rfl dX6_join_352 ?_
    refine xw_iload_n C dX6_join_355 rfl 1 rfl ?_
    refine xw_aload_n C dX6_join_356 rfl 0 rfl ?_
    refine xw_get C in6 0 rfl rfl 2 (by decide) m7 rfl rfl dX6_join_357 ?_
    refine xw_iload_n C dX6_join_360 rfl 1 rfl ?_
    obtain ⟨g361, h⟩ := px_x h
    refine xw_iald C 1 rfl g361 dX6_join_361 ?_
    refine xw_iconst C (4) dX6_join_362 (by decide) ?_
    refine xw_icmp_ne C 375 dX6_join_363 (by decide) (fun c363 => ?_) (fun c363 => ?_)
    · have h := px_f c363 h
      refine xw_iconst C (0) dX6_join_375 (by decide) ?_
      refine xw_perm [0, 2] rfl ?_
      exact hJ376 _ _ _ _ h
    · have h := px_t c363 h
      refine xw_aload_n C dX6_join_366 rfl 0 rfl ?_
      refine xw_get C in6 0 rfl rfl 8 (by decide) m29 rfl rfl dX6_join_367 ?_
      refine xw_iload_n C dX6_join_370 rfl 1 rfl ?_
      obtain ⟨g371, h⟩ := px_x h
      refine xw_iald C 7 rfl g371 dX6_join_371 ?_
      refine xw_goto C 376 dX6_join_372 (by decide) ?_
      refine xw_perm [0, 2] rfl ?_
      exact hJ376 _ _ _ _ h
  have hJ224 : ∀ (v1 : Int32), ∀ (v2 : Int32), ∀ (v3 : Int32), ∀ (x : Ob), fX6_join_J224 v1 v2 v3 x = some r → XW E p l e rmX6_join s m args below meth c Z A 0 0 (w6 E o ad x) 224 6 [(0, .ref o), (1, .int v1), (2, .int v2), (3, .int v3)] [] := by
    intro v1 v2 v3 x h
    rw [fX6_join_J224] at h
    refine xw_aload_n C dX6_join_224 rfl 0 rfl ?_
    refine xw_get C in6 0 rfl rfl 3 (by decide) m13 rfl rfl dX6_join_225 ?_
    refine xw_iload_n C dX6_join_228 rfl 2 rfl ?_
    obtain ⟨g229, h⟩ := px_x h
    refine xw_iald C 2 rfl g229 dX6_join_229 ?_
    refine xw_if_lt C 322 dX6_join_230 (by decide) (fun c230 => ?_) (fun c230 => ?_)
    · have h := px_t c230 h
      refine xw_perm [0, 1, 2] rfl ?_
      exact hJ322 _ _ _ h
    · have h := px_f c230 h
      refine xw_aload_n C dX6_join_233 rfl 0 rfl ?_
      refine xw_get C in6 0 rfl rfl 3 (by decide) m13 rfl rfl dX6_join_234 ?_
      refine xw_iload_n C dX6_join_237 rfl 1 rfl ?_
      obtain ⟨g238, h⟩ := px_x h
      refine xw_iald C 2 rfl g238 dX6_join_238 ?_
      refine xw_if_ge C 257 dX6_join_239 (by decide) (fun c239 => ?_) (fun c239 => ?_)
      · have h := px_t c239 h
        refine xw_aload_n C dX6_join_257 rfl 0 rfl ?_
        refine xw_get C in6 0 rfl rfl 2 (by decide) m7 rfl rfl dX6_join_258 ?_
        refine xw_iload_n C dX6_join_261 rfl 1 rfl ?_
        obtain ⟨g262, h⟩ := px_x h
        refine xw_iald C 1 rfl g262 dX6_join_262 ?_
        refine xw_iconst C (5) dX6_join_263 (by decide) ?_
        refine xw_icmp_ne C 310 dX6_join_264 (by decide) (fun c264 => ?_) (fun c264 => ?_)
        · have h := px_f c264 h
          refine xw_aload_n C dX6_join_310 rfl 0 rfl ?_
          refine xw_iload_n C dX6_join_311 rfl 1 rfl ?_
          refine xw_aload_n C dX6_join_312 rfl 0 rfl ?_
          refine xw_get C in6 0 rfl rfl 3 (by decide) m13 rfl rfl dX6_join_313 ?_
          refine xw_iload_n C dX6_join_316 rfl 2 rfl ?_
          obtain ⟨g317, h⟩ := px_x h
          refine xw_iald C 2 rfl g317 dX6_join_317 ?_
          refine xw_iload_n C dX6_join_318 rfl 3 rfl ?_
          obtain ⟨q319, eq319, h⟩ := px_b h
          refine xw_callVV (w' := w6 E o ad q319) (u := []) (v := []) C (ok_X6_hangsRight (o := o) (ad := ad) (x := x) eq319) 3 gX6_join_X6_hangsRight rfl ⟨rfl, rfl⟩ (by decide +kernel) ⟨Nat.le_of_ble_eq_true rfl, Nat.le_of_ble_eq_true rfl⟩ 0 6 rfl rfl rfl (Nat.le_of_ble_eq_true rfl) ⟨Nat.zero_le _, Nat.zero_le _⟩ rfl xe0 xe0.symm dX6_join_319 ?_
          refine xw_perm [0, 1, 2] rfl ?_
          exact hJ322 _ _ _ h
        · have h := px_t c264 h
          refine xw_aload_n C dX6_join_267 rfl 0 rfl ?_
          refine xw_get C in6 0 rfl rfl 3 (by decide) m13 rfl rfl dX6_join_268 ?_
          refine xw_iload_n C dX6_join_271 rfl 1 rfl ?_
          refine xw_aload_n C dX6_join_272 rfl 0 rfl ?_
          refine xw_iload_n C dX6_join_273 rfl 1 rfl ?_
          refine xw_aload_n C dX6_join_274 rfl 0 rfl ?_
          refine xw_get C in6 0 rfl rfl 3 (by decide) m13 rfl rfl dX6_join_275 ?_
          refine xw_iload_n C dX6_join_278 rfl 1 rfl ?_
          obtain ⟨g279, h⟩ := px_x h
          refine xw_iald C 2 rfl g279 dX6_join_279 ?_
          refine xw_aload_n C dX6_join_280 rfl 0 rfl ?_
          refine xw_get C in6 0 rfl rfl 3 (by decide) m13 rfl rfl dX6_join_281 ?_
          refine xw_iload_n C dX6_join_284 rfl 2 rfl ?_
          obtain ⟨g285, h⟩ := px_x h
          refine xw_iald C 2 rfl g285 dX6_join_285 ?_
          obtain ⟨q286, eq286, h⟩ := px_b h
          refine xw_callVI (w' := w6 E o ad q286.2) (u := []) (v := []) C (ok_X6_heaps (o := o) (ad := ad) RD eq286) 3 gX6_join_X6_heaps rfl ⟨rfl, rfl⟩ (by decide +kernel) ⟨Nat.le_of_ble_eq_true rfl, Nat.le_of_ble_eq_true rfl⟩ 0 6 rfl rfl rfl (Nat.le_of_ble_eq_true rfl) ⟨Nat.zero_le _, Nat.zero_le _⟩ rfl xe0 xe0.symm dX6_join_286 ?_
          obtain ⟨g289, h⟩ := px_x h
          refine px_n h (fun x_289 ex_289 h => ?_)
          refine xw_iast (w' := w6 E o ad x_289) C 2 rfl g289 (by rw [ex_289]; rfl) dX6_join_289 ?_
          refine xw_aload_n C dX6_join_290 rfl 0 rfl ?_
          refine xw_get C in6 0 rfl rfl 4 (by decide) m16 rfl rfl dX6_join_291 ?_
          refine xw_bipush C (64) dX6_join_294 (by decide) ?_
          refine xw_iload_n C dX6_join_296 rfl 1 rfl ?_
          refine xw_imul C dX6_join_297 ?_
          refine xw_aload_n C dX6_join_298 rfl 0 rfl ?_
          refine xw_get C in6 0 rfl rfl 3 (by decide) m13 rfl rfl dX6_join_299 ?_
          refine xw_iload_n C dX6_join_302 rfl 1 rfl ?_
          obtain ⟨g303, h⟩ := px_x h
          refine xw_iald C 2 rfl g303 dX6_join_303 ?_
          refine xw_iadd C dX6_join_304 ?_
          refine xw_iconst C (-1) dX6_join_305 (by decide) ?_
          obtain ⟨g306, h⟩ := px_x h
          refine px_n h (fun x_306 ex_306 h => ?_)
          refine xw_iast (w' := w6 E o ad x_306) C 3 rfl g306 (by rw [ex_306]; rfl) dX6_join_306 ?_
          refine xw_goto C 322 dX6_join_307 (by decide) ?_
          refine xw_perm [0, 1, 2] rfl ?_
          exact hJ322 _ _ _ h
      · have h := px_f c239 h
        refine xw_aload_n C dX6_join_242 rfl 0 rfl ?_
        refine xw_get C in6 0 rfl rfl 3 (by decide) m13 rfl rfl dX6_join_243 ?_
        refine xw_iload_n C dX6_join_246 rfl 1 rfl ?_
        refine xw_aload_n C dX6_join_247 rfl 0 rfl ?_
        refine xw_get C in6 0 rfl rfl 3 (by decide) m13 rfl rfl dX6_join_248 ?_
        refine xw_iload_n C dX6_join_251 rfl 2 rfl ?_
        obtain ⟨g252, h⟩ := px_x h
        refine xw_iald C 2 rfl g252 dX6_join_252 ?_
        obtain ⟨g253, h⟩ := px_x h
        refine px_n h (fun x_253 ex_253 h => ?_)
        refine xw_iast (w' := w6 E o ad x_253) C 2 rfl g253 (by rw [ex_253]; rfl) dX6_join_253 ?_
        refine xw_goto C 322 dX6_join_254 (by decide) ?_
        refine xw_perm [0, 1, 2] rfl ?_
        exact hJ322 _ _ _ h
  have hL114 : ∀ n : Nat, ∀ (v1 : Int32), ∀ (v2 : Int32), ∀ (v3 : Int32), ∀ (v4 : Int32), ∀ (x : Ob), fX6_join_L114 n v1 v2 v3 v4 x = some r → XW E p l e rmX6_join s m args below meth c Z A 0 0 (w6 E o ad x) 114 6 [(0, .ref o), (1, .int v1), (2, .int v2), (3, .int v3), (4, .int v4)] [] := by
    intro n
    induction n with
    | zero =>
      intro v1 v2 v3 v4 x h
      rw [fX6_join_L114] at h
      cases h
    | succ n ih =>
      intro v1 v2 v3 v4 x h
      rw [fX6_join_L114] at h
      refine xw_iload C dX6_join_114 4 rfl ?_
      refine xw_bipush C (64) dX6_join_116 (by decide) ?_
      refine xw_icmp_ge C 224 dX6_join_118 (by decide) (fun c118 => ?_) (fun c118 => ?_)
      · have h := px_t c118 h
        refine xw_perm [0, 1, 2, 3] rfl ?_
        exact hJ224 _ _ _ _ h
      · have h := px_f c118 h
        refine xw_bipush C (64) dX6_join_121 (by decide) ?_
        refine xw_iload_n C dX6_join_123 rfl 2 rfl ?_
        refine xw_imul C dX6_join_124 ?_
        refine xw_iload C dX6_join_125 4 rfl ?_
        refine xw_iadd C dX6_join_127 ?_
        refine xw_topi (fun b128 eb128 => ?_)
        have h := px_v h b128 eb128
        refine xw_istore C dX6_join_128 (by decide) (lv' := [(5, .int b128), (0, .ref o), (1, .int v1), (2, .int v2), (3, .int v3), (4, .int v4)]) rfl ?_
        refine xw_aload_n C dX6_join_130 rfl 1 rfl ?_
        refine xw_get C in6 0 rfl rfl 7 (by decide) m25 rfl rfl dX6_join_131 ?_
        refine xw_iload C dX6_join_134 0 rfl ?_
        obtain ⟨g136, h⟩ := px_x h
        refine xw_zald C 6 rfl g136 dX6_join_136 ?_
        refine xw_if_eq C 218 dX6_join_137 (by decide) (fun c137 => ?_) (fun c137 => ?_)
        · have h := px_t c137 h
          refine xw_perm [1, 2, 3, 4, 5] rfl ?_
          exact hJ218 _ ih _ _ _ _ _ h
        · have h := px_f c137 h
          refine xw_aload_n C dX6_join_140 rfl 1 rfl ?_
          refine xw_get C in6 0 rfl rfl 7 (by decide) m25 rfl rfl dX6_join_141 ?_
          refine xw_bipush C (64) dX6_join_144 (by decide) ?_
          refine xw_iload_n C dX6_join_146 rfl 2 rfl ?_
          refine xw_imul C dX6_join_147 ?_
          refine xw_iload C dX6_join_148 5 rfl ?_
          refine xw_iadd C dX6_join_150 ?_
          refine xw_iconst C (1) dX6_join_151 (by decide) ?_
          obtain ⟨g152, h⟩ := px_x h
          refine px_n h (fun x_152 ex_152 h => ?_)
          refine xw_zast (w' := w6 E o ad x_152) C 6 rfl g152 (by rw [ex_152]; rfl) dX6_join_152 ?_
          refine xw_aload_n C dX6_join_153 rfl 1 rfl ?_
          refine xw_get C in6 0 rfl rfl 4 (by decide) m16 rfl rfl dX6_join_154 ?_
          refine xw_bipush C (64) dX6_join_157 (by decide) ?_
          refine xw_iload_n C dX6_join_159 rfl 2 rfl ?_
          refine xw_imul C dX6_join_160 ?_
          refine xw_iload C dX6_join_161 5 rfl ?_
          refine xw_iadd C dX6_join_163 ?_
          refine xw_aload_n C dX6_join_164 rfl 1 rfl ?_
          refine xw_get C in6 0 rfl rfl 4 (by decide) m16 rfl rfl dX6_join_165 ?_
          refine xw_iload C dX6_join_168 0 rfl ?_
          obtain ⟨g170, h⟩ := px_x h
          refine xw_iald C 3 rfl g170 dX6_join_170 ?_
          obtain ⟨g171, h⟩ := px_x h
          refine px_n h (fun x_171 ex_171 h => ?_)
          refine xw_iast (w' := w6 E o ad x_171) C 3 rfl g171 (by rw [ex_171]; rfl) dX6_join_171 ?_
          refine xw_aload_n C dX6_join_172 rfl 1 rfl ?_
          refine xw_get C in6 0 rfl rfl 5 (by decide) m19 rfl rfl dX6_join_173 ?_
          refine xw_bipush C (64) dX6_join_176 (by decide) ?_
          refine xw_iload_n C dX6_join_178 rfl 2 rfl ?_
          refine xw_imul C dX6_join_179 ?_
          refine xw_iload C dX6_join_180 5 rfl ?_
          refine xw_iadd C dX6_join_182 ?_
          refine xw_aload_n C dX6_join_183 rfl 1 rfl ?_
          refine xw_get C in6 0 rfl rfl 5 (by decide) m19 rfl rfl dX6_join_184 ?_
          refine xw_iload C dX6_join_187 0 rfl ?_
          obtain ⟨g189, h⟩ := px_x h
          refine xw_iald C 4 rfl g189 dX6_join_189 ?_
          obtain ⟨g190, h⟩ := px_x h
          refine px_n h (fun x_190 ex_190 h => ?_)
          refine xw_iast (w' := w6 E o ad x_190) C 4 rfl g190 (by rw [ex_190]; rfl) dX6_join_190 ?_
          refine xw_aload_n C dX6_join_191 rfl 1 rfl ?_
          refine xw_get C in6 0 rfl rfl 6 (by decide) m22 rfl rfl dX6_join_192 ?_
          refine xw_bipush C (64) dX6_join_195 (by decide) ?_
          refine xw_iload_n C dX6_join_197 rfl 2 rfl ?_
          refine xw_imul C dX6_join_198 ?_
          refine xw_iload C dX6_join_199 5 rfl ?_
          refine xw_iadd C dX6_join_201 ?_
          refine xw_aload_n C dX6_join_202 rfl 1 rfl ?_
          refine xw_get C in6 0 rfl rfl 6 (by decide) m22 rfl rfl dX6_join_203 ?_
          refine xw_iload C dX6_join_206 0 rfl ?_
          obtain ⟨g208, h⟩ := px_x h
          refine xw_iald C 5 rfl g208 dX6_join_208 ?_
          obtain ⟨g209, h⟩ := px_x h
          refine px_n h (fun x_209 ex_209 h => ?_)
          refine xw_iast (w' := w6 E o ad x_209) C 5 rfl g209 (by rw [ex_209]; rfl) dX6_join_209 ?_
          refine xw_aload_n C dX6_join_210 rfl 1 rfl ?_
          refine xw_get C in6 0 rfl rfl 7 (by decide) m25 rfl rfl dX6_join_211 ?_
          refine xw_iload C dX6_join_214 0 rfl ?_
          refine xw_iconst C (0) dX6_join_216 (by decide) ?_
          obtain ⟨g217, h⟩ := px_x h
          refine px_n h (fun x_217 ex_217 h => ?_)
          refine xw_zast (w' := w6 E o ad x_217) C 6 rfl g217 (by rw [ex_217]; rfl) dX6_join_217 ?_
          refine xw_perm [1, 2, 3, 4, 5] rfl ?_
          exact hJ218 _ ih _ _ _ _ _ h
  have hJ111 : ∀ (v1 : Int32), ∀ (v2 : Int32), ∀ (v3 : Int32), ∀ (x : Ob), fX6_join_J111 v1 v2 v3 x = some r → XW E p l e rmX6_join s m args below meth c Z A 0 0 (w6 E o ad x) 111 6 [(0, .ref o), (1, .int v1), (2, .int v2), (3, .int v3)] [] := by
    intro v1 v2 v3 x h
    rw [fX6_join_J111] at h
    refine xw_iconst C (0) dX6_join_111 (by decide) ?_
    refine xw_istore C dX6_join_112 (by decide) (lv' := [(4, .int (0)), (0, .ref o), (1, .int v1), (2, .int v2), (3, .int v3)]) rfl ?_
    refine xw_perm [1, 2, 3, 4, 0] rfl ?_
    exact hL114 _ _ _ _ _ _ h
  have hJ76 : ∀ (v1 : Int32), ∀ (v2 : Int32), ∀ (x : Ob), fX6_join_J76 v1 v2 x = some r → XW E p l e rmX6_join s m args below meth c Z A 0 0 (w6 E o ad x) 76 6 [(0, .ref o), (1, .int v1), (2, .int v2)] [] := by
    intro v1 v2 x h
    rw [fX6_join_J76] at h
    refine xw_aload_n C dX6_join_76 rfl 0 rfl ?_
    refine xw_iload_n C dX6_join_77 rfl 1 rfl ?_
    obtain ⟨q78, eq78, h⟩ := px_b h
    refine xw_callVI (w' := w6 E o ad x) (u := []) (v := []) C (ok_X6_greatest (o := o) (ad := ad) (x := x) eq78) 1 gX6_join_X6_greatest rfl ⟨rfl, rfl⟩ (by decide +kernel) ⟨Nat.le_of_ble_eq_true rfl, Nat.le_of_ble_eq_true rfl⟩ 0 6 rfl rfl rfl (Nat.le_of_ble_eq_true rfl) ⟨Nat.zero_le _, Nat.zero_le _⟩ rfl xe0 xe0.symm dX6_join_78 ?_
    refine xw_istore_n C dX6_join_81 rfl (by decide) (lv' := [(3, .int q78), (0, .ref o), (1, .int v1), (2, .int v2)]) rfl ?_
    refine xw_iload_n C dX6_join_82 rfl 0 rfl ?_
    refine xw_if_lt C 111 dX6_join_83 (by decide) (fun c83 => ?_) (fun c83 => ?_)
    · have h := px_t c83 h
      refine xw_perm [1, 2, 3, 0] rfl ?_
      exact hJ111 _ _ _ _ h
    · have h := px_f c83 h
      refine xw_aload_n C dX6_join_86 rfl 1 rfl ?_
      refine xw_get C in6 0 rfl rfl 2 (by decide) m7 rfl rfl dX6_join_87 ?_
      refine xw_iload_n C dX6_join_90 rfl 2 rfl ?_
      obtain ⟨g91, h⟩ := px_x h
      refine xw_iald C 1 rfl g91 dX6_join_91 ?_
      refine xw_iconst C (5) dX6_join_92 (by decide) ?_
      refine xw_icmp_eq C 111 dX6_join_93 (by decide) (fun c93 => ?_) (fun c93 => ?_)
      · have h := px_t c93 h
        refine xw_perm [1, 2, 3, 0] rfl ?_
        exact hJ111 _ _ _ _ h
      · have h := px_f c93 h
        refine xw_aload_n C dX6_join_96 rfl 1 rfl ?_
        refine xw_get C in6 0 rfl rfl 8 (by decide) m29 rfl rfl dX6_join_97 ?_
        refine xw_iload_n C dX6_join_100 rfl 3 rfl ?_
        obtain ⟨g101, h⟩ := px_x h
        refine xw_iald C 7 rfl g101 dX6_join_101 ?_
        refine xw_if_le C 111 dX6_join_102 (by decide) (fun c102 => ?_) (fun c102 => ?_)
        · have h := px_t c102 h
          refine xw_perm [1, 2, 3, 0] rfl ?_
          exact hJ111 _ _ _ _ h
        · have h := px_f c102 h
          refine xw_aload_n C dX6_join_105 rfl 1 rfl ?_
          refine xw_iload_n C dX6_join_106 rfl 2 rfl ?_
          refine xw_iload_n C dX6_join_107 rfl 0 rfl ?_
          obtain ⟨q108, eq108, h⟩ := px_b h
          refine xw_callVV (w' := w6 E o ad q108) (u := []) (v := []) C (ok_X6_rises (o := o) (ad := ad) (x := x) eq108) 2 gX6_join_X6_rises rfl ⟨rfl, rfl⟩ (by decide +kernel) ⟨Nat.le_of_ble_eq_true rfl, Nat.le_of_ble_eq_true rfl⟩ 0 6 rfl rfl rfl (Nat.le_of_ble_eq_true rfl) ⟨Nat.zero_le _, Nat.zero_le _⟩ rfl xe0 xe0.symm dX6_join_108 ?_
          refine xw_perm [1, 2, 3, 0] rfl ?_
          exact hJ111 _ _ _ _ h
  rw [fX6_join] at hf
  have h := hf
  refine xw_aload_n C dX6_join_0 rfl 0 rfl ?_
  refine xw_iconst C (0) dX6_join_1 (by decide) ?_
  refine px_n h (fun x_2 ex_2 h => ?_)
  refine xw_put (w' := w6 E o ad x_2) C in6 tyX6 tyX6_ok nmX6 0 rfl rfl 0 (by decide) m77 rfl rfl rfl (Nat.le_of_ble_eq_true rfl) (by rw [ex_2]; rfl) dX6_join_2 ?_
  refine xw_aload_n C dX6_join_5 rfl 0 rfl ?_
  refine xw_iload_n C dX6_join_6 rfl 1 rfl ?_
  obtain ⟨q7, eq7, h⟩ := px_b h
  refine xw_callVI (w' := w6 E o ad x_2) (u := []) (v := []) C (ok_X6_isTree (o := o) (ad := ad) (x := x_2) eq7) 1 gX6_join_X6_isTree rfl ⟨rfl, rfl⟩ (by decide +kernel) ⟨Nat.le_of_ble_eq_true rfl, Nat.le_of_ble_eq_true rfl⟩ 0 6 rfl rfl rfl (Nat.le_of_ble_eq_true rfl) ⟨Nat.zero_le _, Nat.zero_le _⟩ rfl xe0 xe0.symm dX6_join_7 ?_
  refine xw_if_eq C 41 dX6_join_10 (by decide) (fun c10 => ?_) (fun c10 => ?_)
  · have h := px_t c10 h
    refine xw_iconst C (0) dX6_join_41 (by decide) ?_
    cases h
    rw [hZ]
    exact xw_zret C hr (Or.inl rfl) dX6_join_42
  · have h := px_f c10 h
    refine xw_aload_n C dX6_join_13 rfl 0 rfl ?_
    refine xw_iload_n C dX6_join_14 rfl 2 rfl ?_
    obtain ⟨q15, eq15, h⟩ := px_b h
    refine xw_callVI (w' := w6 E o ad x_2) (u := []) (v := []) C (ok_X6_isTree (o := o) (ad := ad) (x := x_2) eq15) 1 gX6_join_X6_isTree rfl ⟨rfl, rfl⟩ (by decide +kernel) ⟨Nat.le_of_ble_eq_true rfl, Nat.le_of_ble_eq_true rfl⟩ 0 6 rfl rfl rfl (Nat.le_of_ble_eq_true rfl) ⟨Nat.zero_le _, Nat.zero_le _⟩ rfl xe0 xe0.symm dX6_join_15 ?_
    refine xw_if_eq C 41 dX6_join_18 (by decide) (fun c18 => ?_) (fun c18 => ?_)
    · have h := px_t c18 h
      refine xw_iconst C (0) dX6_join_41 (by decide) ?_
      cases h
      rw [hZ]
      exact xw_zret C hr (Or.inl rfl) dX6_join_42
    · have h := px_f c18 h
      refine xw_iload_n C dX6_join_21 rfl 1 rfl ?_
      refine xw_iload_n C dX6_join_22 rfl 2 rfl ?_
      refine xw_icmp_eq C 41 dX6_join_23 (by decide) (fun c23 => ?_) (fun c23 => ?_)
      · have h := px_t c23 h
        refine xw_iconst C (0) dX6_join_41 (by decide) ?_
        cases h
        rw [hZ]
        exact xw_zret C hr (Or.inl rfl) dX6_join_42
      · have h := px_f c23 h
        refine xw_aload_n C dX6_join_26 rfl 0 rfl ?_
        refine xw_get C in6 0 rfl rfl 2 (by decide) m7 rfl rfl dX6_join_27 ?_
        refine xw_iload_n C dX6_join_30 rfl 1 rfl ?_
        obtain ⟨g31, h⟩ := px_x h
        refine xw_iald C 1 rfl g31 dX6_join_31 ?_
        refine xw_aload_n C dX6_join_32 rfl 0 rfl ?_
        refine xw_get C in6 0 rfl rfl 2 (by decide) m7 rfl rfl dX6_join_33 ?_
        refine xw_iload_n C dX6_join_36 rfl 2 rfl ?_
        obtain ⟨g37, h⟩ := px_x h
        refine xw_iald C 1 rfl g37 dX6_join_37 ?_
        refine xw_icmp_eq C 43 dX6_join_38 (by decide) (fun c38 => ?_) (fun c38 => ?_)
        · have h := px_t c38 h
          refine xw_aload_n C dX6_join_43 rfl 0 rfl ?_
          refine xw_get C in6 0 rfl rfl 8 (by decide) m29 rfl rfl dX6_join_44 ?_
          refine xw_iload_n C dX6_join_47 rfl 1 rfl ?_
          obtain ⟨g48, h⟩ := px_x h
          refine xw_iald C 7 rfl g48 dX6_join_48 ?_
          refine xw_if_le C 76 dX6_join_49 (by decide) (fun c49 => ?_) (fun c49 => ?_)
          · have h := px_t c49 h
            exact hJ76 _ _ _ h
          · have h := px_f c49 h
            refine xw_aload_n C dX6_join_52 rfl 0 rfl ?_
            refine xw_get C in6 0 rfl rfl 8 (by decide) m29 rfl rfl dX6_join_53 ?_
            refine xw_iload_n C dX6_join_56 rfl 2 rfl ?_
            obtain ⟨g57, h⟩ := px_x h
            refine xw_iald C 7 rfl g57 dX6_join_57 ?_
            refine xw_if_le C 76 dX6_join_58 (by decide) (fun c58 => ?_) (fun c58 => ?_)
            · have h := px_t c58 h
              exact hJ76 _ _ _ h
            · have h := px_f c58 h
              refine xw_aload_n C dX6_join_61 rfl 0 rfl ?_
              refine xw_iload_n C dX6_join_62 rfl 1 rfl ?_
              obtain ⟨q63, eq63, h⟩ := px_b h
              refine xw_callVI (w' := w6 E o ad x_2) (u := []) (v := []) C (ok_X6_greatest (o := o) (ad := ad) (x := x_2) eq63) 1 gX6_join_X6_greatest rfl ⟨rfl, rfl⟩ (by decide +kernel) ⟨Nat.le_of_ble_eq_true rfl, Nat.le_of_ble_eq_true rfl⟩ 0 6 rfl rfl rfl (Nat.le_of_ble_eq_true rfl) ⟨Nat.zero_le _, Nat.zero_le _⟩ rfl xe0 xe0.symm dX6_join_63 ?_
              refine xw_aload_n C dX6_join_66 rfl 0 rfl ?_
              refine xw_iload_n C dX6_join_67 rfl 2 rfl ?_
              obtain ⟨q68, eq68, h⟩ := px_b h
              refine xw_callVI (w' := w6 E o ad x_2) (u := []) (v := []) C (ok_X6_smallest (o := o) (ad := ad) (x := x_2) eq68) 1 gX6_join_X6_smallest rfl ⟨rfl, rfl⟩ (by decide +kernel) ⟨Nat.le_of_ble_eq_true rfl, Nat.le_of_ble_eq_true rfl⟩ 0 6 rfl rfl rfl (Nat.le_of_ble_eq_true rfl) ⟨Nat.zero_le _, Nat.zero_le _⟩ rfl xe0 xe0.symm dX6_join_68 ?_
              refine xw_icmp_lt C 76 dX6_join_71 (by decide) (fun c71 => ?_) (fun c71 => ?_)
              · have h := px_t c71 h
                exact hJ76 _ _ _ h
              · have h := px_f c71 h
                refine xw_iconst C (0) dX6_join_74 (by decide) ?_
                cases h
                rw [hZ]
                exact xw_zret C hr (Or.inl rfl) dX6_join_75
        · have h := px_f c38 h
          refine xw_iconst C (0) dX6_join_41 (by decide) ?_
          cases h
          rw [hZ]
          exact xw_zret C hr (Or.inl rfl) dX6_join_42
def fX6_clear (p1 : Int32) (x : Ob) : Option (Int32 × Ob) :=
  px_let (ob_i x 0 (0)) (fun x_2 =>
  Option.bind (fX6_isTree p1 x_2) (fun q7 =>
  (if q7 = 0 then
    some ((-1), x_2)
  else
    ix p1 8 (fun j20 =>
    px_let ((x_2.2 12 j20) : Int32) (fun b21 =>
    ix p1 8 (fun j28 =>
    px_let (ob_a x_2 12 j28 (0)) (fun x_28 =>
    some (b21, x_28))))))))
abbrev rmX6_clear : Room := { frames := 1, cells := 0, slots := 0, locals := 21 }
set_option maxHeartbeats 4000000 in
set_option maxRecDepth 100000 in
theorem ok_X6_clear {l : Launch} {E : En} {o : Nat} {ad : (Nat → Nat)} {p1 : Int32} {x : Ob} {r : Int32 × Ob} (hf : fX6_clear p1 x = some r) : CI l yX6_clear wsX6_clear (rmX6_clear) [.ref o, .int p1] E (w6 E o ad x) (w6 E o ad r.2) (r.1) := by
  refine xc_I (by decide) rfl (Nat.le_of_ble_eq_true rfl) [(0, .ref o), (1, .int p1)] rfl (fun p e s m below meth c A C hr => ?_)
  generalize ([.ref o, .int p1] : List Value).toArray = args at C ⊢
  obtain ⟨Z, hZ⟩ : ∃ Z, Z = ZI E (w6 E o ad r.2) (r.1) A below args s 0 0 := ⟨_, rfl⟩
  rw [← hZ]
  have in6 : ∀ w ∈ wsX60, w ∈ wsX6_clear := by decide +kernel
  have m41 : Cond.fieldLink RX6 41 "TurningTreesModel" "asks" "[I" ∈ wsX6_clear := by decide +kernel
  have m77 : Cond.fieldLink RX6 77 "TurningTreesModel" "thrown" "I" ∈ wsX6_clear := by decide +kernel
  rw [fX6_clear] at hf
  have h := hf
  refine xw_aload_n C dX6_clear_0 rfl 0 rfl ?_
  refine xw_iconst C (0) dX6_clear_1 (by decide) ?_
  refine px_n h (fun x_2 ex_2 h => ?_)
  refine xw_put (w' := w6 E o ad x_2) C in6 tyX6 tyX6_ok nmX6 0 rfl rfl 0 (by decide) m77 rfl rfl rfl (Nat.le_of_ble_eq_true rfl) (by rw [ex_2]; rfl) dX6_clear_2 ?_
  refine xw_aload_n C dX6_clear_5 rfl 0 rfl ?_
  refine xw_iload_n C dX6_clear_6 rfl 1 rfl ?_
  obtain ⟨q7, eq7, h⟩ := px_b h
  refine xw_callVI (w' := w6 E o ad x_2) (u := []) (v := []) C (ok_X6_isTree (o := o) (ad := ad) (x := x_2) eq7) 1 gX6_clear_X6_isTree rfl ⟨rfl, rfl⟩ (by decide +kernel) ⟨Nat.le_of_ble_eq_true rfl, Nat.le_of_ble_eq_true rfl⟩ 0 6 rfl rfl rfl (Nat.le_of_ble_eq_true rfl) ⟨Nat.zero_le _, Nat.zero_le _⟩ rfl xe0 xe0.symm dX6_clear_7 ?_
  refine xw_if_ne C 15 dX6_clear_10 (by decide) (fun c10 => ?_) (fun c10 => ?_)
  · have h := px_f c10 h
    refine xw_aload_n C dX6_clear_15 rfl 0 rfl ?_
    refine xw_get C in6 0 rfl rfl 12 (by decide) m41 rfl rfl dX6_clear_16 ?_
    refine xw_iload_n C dX6_clear_19 rfl 1 rfl ?_
    obtain ⟨g20, h⟩ := px_x h
    refine xw_iald C 11 rfl g20 dX6_clear_20 ?_
    refine xw_topi (fun b21 eb21 => ?_)
    have h := px_v h b21 eb21
    refine xw_istore_n C dX6_clear_21 rfl (by decide) (lv' := [(2, .int b21), (0, .ref o), (1, .int p1)]) rfl ?_
    refine xw_aload_n C dX6_clear_22 rfl 1 rfl ?_
    refine xw_get C in6 0 rfl rfl 12 (by decide) m41 rfl rfl dX6_clear_23 ?_
    refine xw_iload_n C dX6_clear_26 rfl 2 rfl ?_
    refine xw_iconst C (0) dX6_clear_27 (by decide) ?_
    obtain ⟨g28, h⟩ := px_x h
    refine px_n h (fun x_28 ex_28 h => ?_)
    refine xw_iast (w' := w6 E o ad x_28) C 11 rfl g28 (by rw [ex_28]; rfl) dX6_clear_28 ?_
    refine xw_iload_n C dX6_clear_29 rfl 0 rfl ?_
    cases h
    rw [hZ]
    exact xw_iret C hr dX6_clear_30
  · have h := px_t c10 h
    refine xw_iconst C (-1) dX6_clear_13 (by decide) ?_
    cases h
    rw [hZ]
    exact xw_iret C hr dX6_clear_14
def fX6_look_J44 (v1 : Int32) (v2 : Int32) (v3 : Int32) (s0 : Int32) (x : Ob) : Option (Int32 × Ob) :=
  px_let (ob_i x 0 s0) (fun x_44 =>
  (if (x_44.1 0) ≤ 0 then
    px_let ((((64) * v1) + v2) : Int32) (fun b62 =>
    (if v3 = 0 then
      Option.bind (fX6_depthOf v1 v2 x_44) (fun q71 =>
      some (q71, x_44))
    else
      (if v3 = (1) then
        ix b62 512 (fun j88 =>
        some ((x_44.2 4 j88), x_44))
      else
        (if v3 = (2) then
          ix b62 512 (fun j103 =>
          some ((x_44.2 5 j103), x_44))
        else
          (if v3 = (3) then
            ix b62 512 (fun j118 =>
            some ((x_44.2 6 j118), x_44))
          else
            Option.bind (fX6_sizeOf RD v1 v2 x_44) (fun q125 =>
            some (q125, x_44)))))))
  else
    some ((0), x_44)))
def fX6_look_J43 (v1 : Int32) (v2 : Int32) (v3 : Int32) (x : Ob) : Option (Int32 × Ob) :=
  fX6_look_J44 v1 v2 v3 (1) x
def fX6_look (p1 : Int32) (p2 : Int32) (p3 : Int32) (x : Ob) : Option (Int32 × Ob) :=
  Option.bind (fX6_isTree p1 x) (fun q3 =>
  (if q3 = 0 then
    fX6_look_J43 p1 p2 p3 x
  else
    Option.bind (fX6_isKey p2) (fun q10 =>
    (if q10 = 0 then
      fX6_look_J43 p1 p2 p3 x
    else
      (if p3 < 0 then
        fX6_look_J43 p1 p2 p3 x
      else
        (if (4) < p3 then
          fX6_look_J43 p1 p2 p3 x
        else
          ix (((64) * p1) + p2) 512 (fun j35 =>
          (if (x.2 7 j35) = 0 then
            fX6_look_J43 p1 p2 p3 x
          else
            fX6_look_J44 p1 p2 p3 (0) x))))))))
abbrev rmX6_look : Room := { frames := 71, cells := 0, slots := 0, locals := 1562 }
set_option maxHeartbeats 4000000 in
set_option maxRecDepth 100000 in
theorem ok_X6_look {l : Launch} {E : En} {o : Nat} {ad : (Nat → Nat)} {p1 : Int32} {p2 : Int32} {p3 : Int32} {x : Ob} {r : Int32 × Ob} (hf : fX6_look p1 p2 p3 x = some r) : CI l yX6_look wsX6_look (rmX6_look) [.ref o, .int p1, .int p2, .int p3] E (w6 E o ad x) (w6 E o ad r.2) (r.1) := by
  refine xc_I (by decide) rfl (Nat.le_of_ble_eq_true rfl) [(0, .ref o), (1, .int p1), (2, .int p2), (3, .int p3)] rfl (fun p e s m below meth c A C hr => ?_)
  generalize ([.ref o, .int p1, .int p2, .int p3] : List Value).toArray = args at C ⊢
  obtain ⟨Z, hZ⟩ : ∃ Z, Z = ZI E (w6 E o ad r.2) (r.1) A below args s 0 0 := ⟨_, rfl⟩
  rw [← hZ]
  have in6 : ∀ w ∈ wsX60, w ∈ wsX6_look := by decide +kernel
  have m16 : Cond.fieldLink RX6 16 "TurningTreesModel" "above" "[I" ∈ wsX6_look := by decide +kernel
  have m19 : Cond.fieldLink RX6 19 "TurningTreesModel" "left" "[I" ∈ wsX6_look := by decide +kernel
  have m22 : Cond.fieldLink RX6 22 "TurningTreesModel" "right" "[I" ∈ wsX6_look := by decide +kernel
  have m25 : Cond.fieldLink RX6 25 "TurningTreesModel" "isIn" "[Z" ∈ wsX6_look := by decide +kernel
  have m77 : Cond.fieldLink RX6 77 "TurningTreesModel" "thrown" "I" ∈ wsX6_look := by decide +kernel
  have hJ44 : ∀ (v1 : Int32), ∀ (v2 : Int32), ∀ (v3 : Int32), ∀ (s0 : Int32), ∀ (x : Ob), fX6_look_J44 v1 v2 v3 s0 x = some r → XW E p l e rmX6_look s m args below meth c Z A 0 0 (w6 E o ad x) 44 5 [(0, .ref o), (1, .int v1), (2, .int v2), (3, .int v3)] [.int s0, .ref o] := by
    intro v1 v2 v3 s0 x h
    rw [fX6_look_J44] at h
    refine px_n h (fun x_44 ex_44 h => ?_)
    refine xw_put (w' := w6 E o ad x_44) C in6 tyX6 tyX6_ok nmX6 0 rfl rfl 0 (by decide) m77 rfl rfl rfl (Nat.le_of_ble_eq_true rfl) (by rw [ex_44]; rfl) dX6_look_44 ?_
    refine xw_aload_n C dX6_look_47 rfl 0 rfl ?_
    refine xw_get C in6 0 rfl rfl 0 (by decide) m77 rfl rfl dX6_look_48 ?_
    refine xw_if_le C 56 dX6_look_51 (by decide) (fun c51 => ?_) (fun c51 => ?_)
    · have h := px_t c51 h
      refine xw_bipush C (64) dX6_look_56 (by decide) ?_
      refine xw_iload_n C dX6_look_58 rfl 1 rfl ?_
      refine xw_imul C dX6_look_59 ?_
      refine xw_iload_n C dX6_look_60 rfl 2 rfl ?_
      refine xw_iadd C dX6_look_61 ?_
      refine xw_topi (fun b62 eb62 => ?_)
      have h := px_v h b62 eb62
      refine xw_istore C dX6_look_62 (by decide) (lv' := [(4, .int b62), (0, .ref o), (1, .int v1), (2, .int v2), (3, .int v3)]) rfl ?_
      refine xw_iload_n C dX6_look_64 rfl 4 rfl ?_
      refine xw_if_ne C 77 dX6_look_65 (by decide) (fun c65 => ?_) (fun c65 => ?_)
      · have h := px_f c65 h
        refine xw_iload_n C dX6_look_77 rfl 4 rfl ?_
        refine xw_iconst C (1) dX6_look_78 (by decide) ?_
        refine xw_icmp_ne C 92 dX6_look_79 (by decide) (fun c79 => ?_) (fun c79 => ?_)
        · have h := px_f c79 h
          refine xw_iload_n C dX6_look_92 rfl 4 rfl ?_
          refine xw_iconst C (2) dX6_look_93 (by decide) ?_
          refine xw_icmp_ne C 107 dX6_look_94 (by decide) (fun c94 => ?_) (fun c94 => ?_)
          · have h := px_f c94 h
            refine xw_iload_n C dX6_look_107 rfl 4 rfl ?_
            refine xw_iconst C (3) dX6_look_108 (by decide) ?_
            refine xw_icmp_ne C 122 dX6_look_109 (by decide) (fun c109 => ?_) (fun c109 => ?_)
            · have h := px_f c109 h
              refine xw_aload_n C dX6_look_122 rfl 1 rfl ?_
              refine xw_iload_n C dX6_look_123 rfl 2 rfl ?_
              refine xw_iload_n C dX6_look_124 rfl 3 rfl ?_
              obtain ⟨q125, eq125, h⟩ := px_b h
              refine xw_callVI (w' := w6 E o ad x_44) (u := []) (v := []) C (ok_X6_sizeOf (o := o) (ad := ad) RD eq125) 2 gX6_look_X6_sizeOf rfl ⟨rfl, rfl⟩ (by decide +kernel) ⟨Nat.le_of_ble_eq_true rfl, Nat.le_of_ble_eq_true rfl⟩ 0 6 rfl rfl rfl (Nat.le_of_ble_eq_true rfl) ⟨Nat.zero_le _, Nat.zero_le _⟩ rfl xe0 xe0.symm dX6_look_125 ?_
              cases h
              rw [hZ]
              exact xw_iret C hr dX6_look_128
            · have h := px_t c109 h
              refine xw_aload_n C dX6_look_112 rfl 1 rfl ?_
              refine xw_get C in6 0 rfl rfl 6 (by decide) m22 rfl rfl dX6_look_113 ?_
              refine xw_iload C dX6_look_116 0 rfl ?_
              obtain ⟨g118, h⟩ := px_x h
              refine xw_iald C 5 rfl g118 dX6_look_118 ?_
              refine xw_goto C 128 dX6_look_119 (by decide) ?_
              cases h
              rw [hZ]
              exact xw_iret C hr dX6_look_128
          · have h := px_t c94 h
            refine xw_aload_n C dX6_look_97 rfl 1 rfl ?_
            refine xw_get C in6 0 rfl rfl 5 (by decide) m19 rfl rfl dX6_look_98 ?_
            refine xw_iload C dX6_look_101 0 rfl ?_
            obtain ⟨g103, h⟩ := px_x h
            refine xw_iald C 4 rfl g103 dX6_look_103 ?_
            refine xw_goto C 128 dX6_look_104 (by decide) ?_
            cases h
            rw [hZ]
            exact xw_iret C hr dX6_look_128
        · have h := px_t c79 h
          refine xw_aload_n C dX6_look_82 rfl 1 rfl ?_
          refine xw_get C in6 0 rfl rfl 4 (by decide) m16 rfl rfl dX6_look_83 ?_
          refine xw_iload C dX6_look_86 0 rfl ?_
          obtain ⟨g88, h⟩ := px_x h
          refine xw_iald C 3 rfl g88 dX6_look_88 ?_
          refine xw_goto C 128 dX6_look_89 (by decide) ?_
          cases h
          rw [hZ]
          exact xw_iret C hr dX6_look_128
      · have h := px_t c65 h
        refine xw_aload_n C dX6_look_68 rfl 1 rfl ?_
        refine xw_iload_n C dX6_look_69 rfl 2 rfl ?_
        refine xw_iload_n C dX6_look_70 rfl 3 rfl ?_
        obtain ⟨q71, eq71, h⟩ := px_b h
        refine xw_callVI (w' := w6 E o ad x_44) (u := []) (v := []) C (ok_X6_depthOf (o := o) (ad := ad) (x := x_44) eq71) 2 gX6_look_X6_depthOf rfl ⟨rfl, rfl⟩ (by decide +kernel) ⟨Nat.le_of_ble_eq_true rfl, Nat.le_of_ble_eq_true rfl⟩ 0 6 rfl rfl rfl (Nat.le_of_ble_eq_true rfl) ⟨Nat.zero_le _, Nat.zero_le _⟩ rfl xe0 xe0.symm dX6_look_71 ?_
        refine xw_goto C 128 dX6_look_74 (by decide) ?_
        cases h
        rw [hZ]
        exact xw_iret C hr dX6_look_128
    · have h := px_f c51 h
      refine xw_iconst C (0) dX6_look_54 (by decide) ?_
      cases h
      rw [hZ]
      exact xw_iret C hr dX6_look_55
  have hJ43 : ∀ (v1 : Int32), ∀ (v2 : Int32), ∀ (v3 : Int32), ∀ (x : Ob), fX6_look_J43 v1 v2 v3 x = some r → XW E p l e rmX6_look s m args below meth c Z A 0 0 (w6 E o ad x) 43 5 [(0, .ref o), (1, .int v1), (2, .int v2), (3, .int v3)] [.ref o] := by
    intro v1 v2 v3 x h
    rw [fX6_look_J43] at h
    refine xw_iconst C (1) dX6_look_43 (by decide) ?_
    exact hJ44 _ _ _ _ _ h
  rw [fX6_look] at hf
  have h := hf
  refine xw_aload_n C dX6_look_0 rfl 0 rfl ?_
  refine xw_aload_n C dX6_look_1 rfl 0 rfl ?_
  refine xw_iload_n C dX6_look_2 rfl 1 rfl ?_
  obtain ⟨q3, eq3, h⟩ := px_b h
  refine xw_callVI (w' := w6 E o ad x) (u := []) (v := []) C (ok_X6_isTree (o := o) (ad := ad) (x := x) eq3) 1 gX6_look_X6_isTree rfl ⟨rfl, rfl⟩ (by decide +kernel) ⟨Nat.le_of_ble_eq_true rfl, Nat.le_of_ble_eq_true rfl⟩ 0 6 rfl rfl rfl (Nat.le_of_ble_eq_true rfl) ⟨Nat.zero_le _, Nat.zero_le _⟩ rfl xe0 xe0.symm dX6_look_3 ?_
  refine xw_if_eq C 43 dX6_look_6 (by decide) (fun c6 => ?_) (fun c6 => ?_)
  · have h := px_t c6 h
    exact hJ43 _ _ _ _ h
  · have h := px_f c6 h
    refine xw_iload_n C dX6_look_9 rfl 2 rfl ?_
    obtain ⟨q10, eq10, h⟩ := px_b h
    refine xw_callSI (w' := w6 E o ad x) (u := []) (v := w6 E o ad x) C (ok_X6_isKey  eq10) 1 gX6_look_X6_isKey rfl ⟨rfl, rfl⟩ (by decide +kernel) ⟨Nat.le_of_ble_eq_true rfl, Nat.le_of_ble_eq_true rfl⟩ rfl (Nat.le_of_ble_eq_true rfl) ⟨Nat.zero_le _, Nat.zero_le _⟩ rfl rfl rfl dX6_look_10 ?_
    refine xw_if_eq C 43 dX6_look_13 (by decide) (fun c13 => ?_) (fun c13 => ?_)
    · have h := px_t c13 h
      exact hJ43 _ _ _ _ h
    · have h := px_f c13 h
      refine xw_iload_n C dX6_look_16 rfl 3 rfl ?_
      refine xw_if_lt C 43 dX6_look_17 (by decide) (fun c17 => ?_) (fun c17 => ?_)
      · have h := px_t c17 h
        exact hJ43 _ _ _ _ h
      · have h := px_f c17 h
        refine xw_iload_n C dX6_look_20 rfl 3 rfl ?_
        refine xw_iconst C (4) dX6_look_21 (by decide) ?_
        refine xw_icmp_gt C 43 dX6_look_22 (by decide) (fun c22 => ?_) (fun c22 => ?_)
        · have h := px_t c22 h
          exact hJ43 _ _ _ _ h
        · have h := px_f c22 h
          refine xw_aload_n C dX6_look_25 rfl 0 rfl ?_
          refine xw_get C in6 0 rfl rfl 7 (by decide) m25 rfl rfl dX6_look_26 ?_
          refine xw_bipush C (64) dX6_look_29 (by decide) ?_
          refine xw_iload_n C dX6_look_31 rfl 1 rfl ?_
          refine xw_imul C dX6_look_32 ?_
          refine xw_iload_n C dX6_look_33 rfl 2 rfl ?_
          refine xw_iadd C dX6_look_34 ?_
          obtain ⟨g35, h⟩ := px_x h
          refine xw_zald C 6 rfl g35 dX6_look_35 ?_
          refine xw_if_eq C 43 dX6_look_36 (by decide) (fun c36 => ?_) (fun c36 => ?_)
          · have h := px_t c36 h
            exact hJ43 _ _ _ _ h
          · have h := px_f c36 h
            refine xw_iconst C (0) dX6_look_39 (by decide) ?_
            refine xw_goto C 44 dX6_look_40 (by decide) ?_
            exact hJ44 _ _ _ _ _ h
def fX6_deepest_J48 (k4 : Int32 → Int32 → Int32 → Ob → Option (Int32)) (v1 : Int32) (v3 : Int32) (s0 : Int32) (x : Ob) : Option (Int32) :=
  px_let (v3 + (1) : Int32) (fun b49 =>
  k4 v1 s0 b49 x)
def fX6_deepest_J34 (k4 : Int32 → Int32 → Int32 → Ob → Option (Int32)) (v1 : Int32) (v2 : Int32) (v3 : Int32) (s0 : Int32) (x : Ob) : Option (Int32) :=
  (if s0 ≤ v2 then
    fX6_deepest_J48 (k4) v1 v3 v2 x
  else
    fX6_deepest_J48 (k4) v1 v3 s0 x)
def fX6_deepest_L4 : Nat → Int32 → Int32 → Int32 → Ob → Option (Int32)
  | 0, _, _, _, _ => none
  | n + 1, v1, v2, v3, x =>
  (if (64) ≤ v3 then
    some v2
  else
    ix (((64) * v1) + v3) 512 (fun j20 =>
    (if (x.2 7 j20) = 0 then
      fX6_deepest_J34 (fX6_deepest_L4 n) v1 v2 v3 (0) x
    else
      Option.bind (fX6_depthOf v1 v3 x) (fun q27 =>
      fX6_deepest_J34 (fX6_deepest_L4 n) v1 v2 v3 q27 x))))
def fX6_deepest (p1 : Int32) (x : Ob) : Option (Int32) :=
  fX6_deepest_L4 FU p1 (0) (0) x
abbrev rmX6_deepest : Room := { frames := 1, cells := 0, slots := 0, locals := 24 }
set_option maxHeartbeats 4000000 in
set_option maxRecDepth 100000 in
theorem ok_X6_deepest {l : Launch} {E : En} {o : Nat} {ad : (Nat → Nat)} {p1 : Int32} {x : Ob} {r : Int32} (hf : fX6_deepest p1 x = some r) : CI l yX6_deepest wsX6_deepest (rmX6_deepest) [.ref o, .int p1] E (w6 E o ad x) (w6 E o ad x) (r) := by
  refine xc_I (by decide) rfl (Nat.le_of_ble_eq_true rfl) [(0, .ref o), (1, .int p1)] rfl (fun p e s m below meth c A C hr => ?_)
  generalize ([.ref o, .int p1] : List Value).toArray = args at C ⊢
  obtain ⟨Z, hZ⟩ : ∃ Z, Z = ZI E (w6 E o ad x) (r) A below args s 0 0 := ⟨_, rfl⟩
  rw [← hZ]
  have in6 : ∀ w ∈ wsX60, w ∈ wsX6_deepest := by decide +kernel
  have m25 : Cond.fieldLink RX6 25 "TurningTreesModel" "isIn" "[Z" ∈ wsX6_deepest := by decide +kernel
  have hJ48 : ∀ (k4 : Int32 → Int32 → Int32 → Ob → Option (Int32)), (∀ (v1 : Int32), ∀ (v2 : Int32), ∀ (v3 : Int32), k4 v1 v2 v3 x = some r → XW E p l e rmX6_deepest s m args below meth c Z A 0 0 (w6 E o ad x) 4 5 [(0, .ref o), (1, .int v1), (2, .int v2), (3, .int v3)] []) → ∀ (v1 : Int32), ∀ (v3 : Int32), ∀ (s0 : Int32), fX6_deepest_J48 k4 v1 v3 s0 x = some r → XW E p l e rmX6_deepest s m args below meth c Z A 0 0 (w6 E o ad x) 48 5 [(0, .ref o), (1, .int v1), (3, .int v3)] [.int s0] := by
    intro k4 hk4 v1 v3 s0 h
    rw [fX6_deepest_J48] at h
    refine xw_istore_n C dX6_deepest_48 rfl (by decide) (lv' := [(2, .int s0), (0, .ref o), (1, .int v1), (3, .int v3)]) rfl ?_
    refine px_n h (fun b49 eb49 h => ?_)
    refine xw_iinc (v := b49) C dX6_deepest_49 3 rfl eb49 (by decide) (lv' := [(3, .int b49), (2, .int s0), (0, .ref o), (1, .int v1)]) rfl ?_
    refine xw_goto C 4 dX6_deepest_52 (by decide) ?_
    refine xw_perm [2, 3, 1, 0] rfl ?_
    exact hk4 _ _ _ h
  have hJ34 : ∀ (k4 : Int32 → Int32 → Int32 → Ob → Option (Int32)), (∀ (v1 : Int32), ∀ (v2 : Int32), ∀ (v3 : Int32), k4 v1 v2 v3 x = some r → XW E p l e rmX6_deepest s m args below meth c Z A 0 0 (w6 E o ad x) 4 5 [(0, .ref o), (1, .int v1), (2, .int v2), (3, .int v3)] []) → ∀ (v1 : Int32), ∀ (v2 : Int32), ∀ (v3 : Int32), ∀ (s0 : Int32), fX6_deepest_J34 k4 v1 v2 v3 s0 x = some r → XW E p l e rmX6_deepest s m args below meth c Z A 0 0 (w6 E o ad x) 34 5 [(0, .ref o), (1, .int v1), (2, .int v2), (3, .int v3)] [.int s0] := by
    intro k4 hk4 v1 v2 v3 s0 h
    rw [fX6_deepest_J34] at h
    refine xw_istore C dX6_deepest_34 (by decide) (lv' := [(4, .int s0), (0, .ref o), (1, .int v1), (2, .int v2), (3, .int v3)]) rfl ?_
    refine xw_iload C dX6_deepest_36 0 rfl ?_
    refine xw_iload_n C dX6_deepest_38 rfl 3 rfl ?_
    refine xw_icmp_le C 47 dX6_deepest_39 (by decide) (fun c39 => ?_) (fun c39 => ?_)
    · have h := px_t c39 h
      refine xw_iload_n C dX6_deepest_47 rfl 3 rfl ?_
      refine xw_perm [1, 2, 4] rfl ?_
      exact hJ48 _ hk4 _ _ _ h
    · have h := px_f c39 h
      refine xw_iload C dX6_deepest_42 0 rfl ?_
      refine xw_goto C 48 dX6_deepest_44 (by decide) ?_
      refine xw_perm [1, 2, 4] rfl ?_
      exact hJ48 _ hk4 _ _ _ h
  have hL4 : ∀ n : Nat, ∀ (v1 : Int32), ∀ (v2 : Int32), ∀ (v3 : Int32), fX6_deepest_L4 n v1 v2 v3 x = some r → XW E p l e rmX6_deepest s m args below meth c Z A 0 0 (w6 E o ad x) 4 5 [(0, .ref o), (1, .int v1), (2, .int v2), (3, .int v3)] [] := by
    intro n
    induction n with
    | zero =>
      intro v1 v2 v3 h
      rw [fX6_deepest_L4] at h
      cases h
    | succ n ih =>
      intro v1 v2 v3 h
      rw [fX6_deepest_L4] at h
      refine xw_iload_n C dX6_deepest_4 rfl 3 rfl ?_
      refine xw_bipush C (64) dX6_deepest_5 (by decide) ?_
      refine xw_icmp_ge C 55 dX6_deepest_7 (by decide) (fun c7 => ?_) (fun c7 => ?_)
      · have h := px_t c7 h
        refine xw_iload_n C dX6_deepest_55 rfl 2 rfl ?_
        cases h
        rw [hZ]
        exact xw_iret C hr dX6_deepest_56
      · have h := px_f c7 h
        refine xw_aload_n C dX6_deepest_10 rfl 0 rfl ?_
        refine xw_get C in6 0 rfl rfl 7 (by decide) m25 rfl rfl dX6_deepest_11 ?_
        refine xw_bipush C (64) dX6_deepest_14 (by decide) ?_
        refine xw_iload_n C dX6_deepest_16 rfl 1 rfl ?_
        refine xw_imul C dX6_deepest_17 ?_
        refine xw_iload_n C dX6_deepest_18 rfl 3 rfl ?_
        refine xw_iadd C dX6_deepest_19 ?_
        obtain ⟨g20, h⟩ := px_x h
        refine xw_zald C 6 rfl g20 dX6_deepest_20 ?_
        refine xw_if_eq C 33 dX6_deepest_21 (by decide) (fun c21 => ?_) (fun c21 => ?_)
        · have h := px_t c21 h
          refine xw_iconst C (0) dX6_deepest_33 (by decide) ?_
          exact hJ34 _ ih _ _ _ _ h
        · have h := px_f c21 h
          refine xw_aload_n C dX6_deepest_24 rfl 0 rfl ?_
          refine xw_iload_n C dX6_deepest_25 rfl 1 rfl ?_
          refine xw_iload_n C dX6_deepest_26 rfl 3 rfl ?_
          obtain ⟨q27, eq27, h⟩ := px_b h
          refine xw_callVI (w' := w6 E o ad x) (u := []) (v := []) C (ok_X6_depthOf (o := o) (ad := ad) (x := x) eq27) 2 gX6_deepest_X6_depthOf rfl ⟨rfl, rfl⟩ (by decide +kernel) ⟨Nat.le_of_ble_eq_true rfl, Nat.le_of_ble_eq_true rfl⟩ 0 6 rfl rfl rfl (Nat.le_of_ble_eq_true rfl) ⟨Nat.zero_le _, Nat.zero_le _⟩ rfl xe0 xe0.symm dX6_deepest_27 ?_
          refine xw_goto C 34 dX6_deepest_30 (by decide) ?_
          exact hJ34 _ ih _ _ _ _ h
  rw [fX6_deepest] at hf
  have h := hf
  refine xw_iconst C (0) dX6_deepest_0 (by decide) ?_
  refine xw_istore_n C dX6_deepest_1 rfl (by decide) (lv' := [(2, .int (0)), (0, .ref o), (1, .int p1)]) rfl ?_
  refine xw_iconst C (0) dX6_deepest_2 (by decide) ?_
  refine xw_istore_n C dX6_deepest_3 rfl (by decide) (lv' := [(3, .int (0)), (2, .int (0)), (0, .ref o), (1, .int p1)]) rfl ?_
  refine xw_perm [2, 3, 1, 0] rfl ?_
  exact hL4 _ _ _ _ h
def fX6_potential_J54 (k4 : Int32 → Int32 → Int32 → Ob → Option (Int32)) (v1 : Int32) (v2 : Int32) (v3 : Int32) (x : Ob) : Option (Int32) :=
  px_let (v3 + (1) : Int32) (fun b54 =>
  k4 v1 v2 b54 x)
def fX6_potential_L36 (k4 : Int32 → Int32 → Int32 → Ob → Option (Int32)) : Nat → Int32 → Int32 → Int32 → Int32 → Ob → Option (Int32)
  | 0, _, _, _, _, _ => none
  | n + 1, v1, v2, v3, v4, x =>
  (if v4 ≤ (1) then
    fX6_potential_J54 (k4) v1 v2 v3 x
  else
    px_let (v2 + (1) : Int32) (fun b42 =>
    px_let ((v4 / (2)) : Int32) (fun b49 =>
    fX6_potential_L36 k4 n v1 b42 v3 b49 x)))
def fX6_potential_J34 (k4 : Int32 → Int32 → Int32 → Ob → Option (Int32)) (v1 : Int32) (v2 : Int32) (v3 : Int32) (s0 : Int32) (x : Ob) : Option (Int32) :=
  fX6_potential_L36 (k4) FU v1 v2 v3 s0 x
def fX6_potential_L4 : Nat → Int32 → Int32 → Int32 → Ob → Option (Int32)
  | 0, _, _, _, _ => none
  | n + 1, v1, v2, v3, x =>
  (if (64) ≤ v3 then
    some v2
  else
    ix (((64) * v1) + v3) 512 (fun j20 =>
    (if (x.2 7 j20) = 0 then
      fX6_potential_J34 (fX6_potential_L4 n) v1 v2 v3 (0) x
    else
      Option.bind (fX6_sizeOf RD v1 v3 x) (fun q27 =>
      fX6_potential_J34 (fX6_potential_L4 n) v1 v2 v3 q27 x))))
def fX6_potential (p1 : Int32) (x : Ob) : Option (Int32) :=
  fX6_potential_L4 FU p1 (0) (0) x
abbrev rmX6_potential : Room := { frames := 71, cells := 0, slots := 0, locals := 1562 }
set_option maxHeartbeats 4000000 in
set_option maxRecDepth 100000 in
theorem ok_X6_potential {l : Launch} {E : En} {o : Nat} {ad : (Nat → Nat)} {p1 : Int32} {x : Ob} {r : Int32} (hf : fX6_potential p1 x = some r) : CI l yX6_potential wsX6_potential (rmX6_potential) [.ref o, .int p1] E (w6 E o ad x) (w6 E o ad x) (r) := by
  refine xc_I (by decide) rfl (Nat.le_of_ble_eq_true rfl) [(0, .ref o), (1, .int p1)] rfl (fun p e s m below meth c A C hr => ?_)
  generalize ([.ref o, .int p1] : List Value).toArray = args at C ⊢
  obtain ⟨Z, hZ⟩ : ∃ Z, Z = ZI E (w6 E o ad x) (r) A below args s 0 0 := ⟨_, rfl⟩
  rw [← hZ]
  have in6 : ∀ w ∈ wsX60, w ∈ wsX6_potential := by decide +kernel
  have m25 : Cond.fieldLink RX6 25 "TurningTreesModel" "isIn" "[Z" ∈ wsX6_potential := by decide +kernel
  have hJ54 : ∀ (k4 : Int32 → Int32 → Int32 → Ob → Option (Int32)), (∀ (v1 : Int32), ∀ (v2 : Int32), ∀ (v3 : Int32), k4 v1 v2 v3 x = some r → XW E p l e rmX6_potential s m args below meth c Z A 0 0 (w6 E o ad x) 4 5 [(0, .ref o), (1, .int v1), (2, .int v2), (3, .int v3)] []) → ∀ (v1 : Int32), ∀ (v2 : Int32), ∀ (v3 : Int32), fX6_potential_J54 k4 v1 v2 v3 x = some r → XW E p l e rmX6_potential s m args below meth c Z A 0 0 (w6 E o ad x) 54 5 [(0, .ref o), (1, .int v1), (2, .int v2), (3, .int v3)] [] := by
    intro k4 hk4 v1 v2 v3 h
    rw [fX6_potential_J54] at h
    refine px_n h (fun b54 eb54 h => ?_)
    refine xw_iinc (v := b54) C dX6_potential_54 3 rfl eb54 (by decide) (lv' := [(3, .int b54), (0, .ref o), (1, .int v1), (2, .int v2)]) rfl ?_
    refine xw_goto C 4 dX6_potential_57 (by decide) ?_
    refine xw_perm [1, 2, 3, 0] rfl ?_
    exact hk4 _ _ _ h
  have hL36 : ∀ (k4 : Int32 → Int32 → Int32 → Ob → Option (Int32)), (∀ (v1 : Int32), ∀ (v2 : Int32), ∀ (v3 : Int32), k4 v1 v2 v3 x = some r → XW E p l e rmX6_potential s m args below meth c Z A 0 0 (w6 E o ad x) 4 5 [(0, .ref o), (1, .int v1), (2, .int v2), (3, .int v3)] []) → ∀ n : Nat, ∀ (v1 : Int32), ∀ (v2 : Int32), ∀ (v3 : Int32), ∀ (v4 : Int32), fX6_potential_L36 k4 n v1 v2 v3 v4 x = some r → XW E p l e rmX6_potential s m args below meth c Z A 0 0 (w6 E o ad x) 36 5 [(0, .ref o), (1, .int v1), (2, .int v2), (3, .int v3), (4, .int v4)] [] := by
    intro k4 hk4 n
    induction n with
    | zero =>
      intro v1 v2 v3 v4 h
      rw [fX6_potential_L36] at h
      cases h
    | succ n ih =>
      intro v1 v2 v3 v4 h
      rw [fX6_potential_L36] at h
      refine xw_iload C dX6_potential_36 4 rfl ?_
      refine xw_iconst C (1) dX6_potential_38 (by decide) ?_
      refine xw_icmp_le C 54 dX6_potential_39 (by decide) (fun c39 => ?_) (fun c39 => ?_)
      · have h := px_t c39 h
        refine xw_perm [0, 1, 2, 3] rfl ?_
        exact hJ54 _ hk4 _ _ _ h
      · have h := px_f c39 h
        refine px_n h (fun b42 eb42 h => ?_)
        refine xw_iinc (v := b42) C dX6_potential_42 2 rfl eb42 (by decide) (lv' := [(2, .int b42), (0, .ref o), (1, .int v1), (3, .int v3), (4, .int v4)]) rfl ?_
        refine xw_iload C dX6_potential_45 4 rfl ?_
        refine xw_iconst C (2) dX6_potential_47 (by decide) ?_
        refine xw_idiv C dX6_potential_48 (by decide) ?_
        refine xw_topi (fun b49 eb49 => ?_)
        have h := px_v h b49 eb49
        refine xw_istore C dX6_potential_49 (by decide) (lv' := [(4, .int b49), (2, .int b42), (0, .ref o), (1, .int v1), (3, .int v3)]) rfl ?_
        refine xw_goto C 36 dX6_potential_51 (by decide) ?_
        refine xw_perm [2, 3, 1, 4, 0] rfl ?_
        exact ih _ _ _ _ h
  have hJ34 : ∀ (k4 : Int32 → Int32 → Int32 → Ob → Option (Int32)), (∀ (v1 : Int32), ∀ (v2 : Int32), ∀ (v3 : Int32), k4 v1 v2 v3 x = some r → XW E p l e rmX6_potential s m args below meth c Z A 0 0 (w6 E o ad x) 4 5 [(0, .ref o), (1, .int v1), (2, .int v2), (3, .int v3)] []) → ∀ (v1 : Int32), ∀ (v2 : Int32), ∀ (v3 : Int32), ∀ (s0 : Int32), fX6_potential_J34 k4 v1 v2 v3 s0 x = some r → XW E p l e rmX6_potential s m args below meth c Z A 0 0 (w6 E o ad x) 34 5 [(0, .ref o), (1, .int v1), (2, .int v2), (3, .int v3)] [.int s0] := by
    intro k4 hk4 v1 v2 v3 s0 h
    rw [fX6_potential_J34] at h
    refine xw_istore C dX6_potential_34 (by decide) (lv' := [(4, .int s0), (0, .ref o), (1, .int v1), (2, .int v2), (3, .int v3)]) rfl ?_
    refine xw_perm [1, 2, 3, 4, 0] rfl ?_
    exact hL36 _ hk4 _ _ _ _ _ h
  have hL4 : ∀ n : Nat, ∀ (v1 : Int32), ∀ (v2 : Int32), ∀ (v3 : Int32), fX6_potential_L4 n v1 v2 v3 x = some r → XW E p l e rmX6_potential s m args below meth c Z A 0 0 (w6 E o ad x) 4 5 [(0, .ref o), (1, .int v1), (2, .int v2), (3, .int v3)] [] := by
    intro n
    induction n with
    | zero =>
      intro v1 v2 v3 h
      rw [fX6_potential_L4] at h
      cases h
    | succ n ih =>
      intro v1 v2 v3 h
      rw [fX6_potential_L4] at h
      refine xw_iload_n C dX6_potential_4 rfl 3 rfl ?_
      refine xw_bipush C (64) dX6_potential_5 (by decide) ?_
      refine xw_icmp_ge C 60 dX6_potential_7 (by decide) (fun c7 => ?_) (fun c7 => ?_)
      · have h := px_t c7 h
        refine xw_iload_n C dX6_potential_60 rfl 2 rfl ?_
        cases h
        rw [hZ]
        exact xw_iret C hr dX6_potential_61
      · have h := px_f c7 h
        refine xw_aload_n C dX6_potential_10 rfl 0 rfl ?_
        refine xw_get C in6 0 rfl rfl 7 (by decide) m25 rfl rfl dX6_potential_11 ?_
        refine xw_bipush C (64) dX6_potential_14 (by decide) ?_
        refine xw_iload_n C dX6_potential_16 rfl 1 rfl ?_
        refine xw_imul C dX6_potential_17 ?_
        refine xw_iload_n C dX6_potential_18 rfl 3 rfl ?_
        refine xw_iadd C dX6_potential_19 ?_
        obtain ⟨g20, h⟩ := px_x h
        refine xw_zald C 6 rfl g20 dX6_potential_20 ?_
        refine xw_if_eq C 33 dX6_potential_21 (by decide) (fun c21 => ?_) (fun c21 => ?_)
        · have h := px_t c21 h
          refine xw_iconst C (0) dX6_potential_33 (by decide) ?_
          exact hJ34 _ ih _ _ _ _ h
        · have h := px_f c21 h
          refine xw_aload_n C dX6_potential_24 rfl 0 rfl ?_
          refine xw_iload_n C dX6_potential_25 rfl 1 rfl ?_
          refine xw_iload_n C dX6_potential_26 rfl 3 rfl ?_
          obtain ⟨q27, eq27, h⟩ := px_b h
          refine xw_callVI (w' := w6 E o ad x) (u := []) (v := []) C (ok_X6_sizeOf (o := o) (ad := ad) RD eq27) 2 gX6_potential_X6_sizeOf rfl ⟨rfl, rfl⟩ (by decide +kernel) ⟨Nat.le_of_ble_eq_true rfl, Nat.le_of_ble_eq_true rfl⟩ 0 6 rfl rfl rfl (Nat.le_of_ble_eq_true rfl) ⟨Nat.zero_le _, Nat.zero_le _⟩ rfl xe0 xe0.symm dX6_potential_27 ?_
          refine xw_goto C 34 dX6_potential_30 (by decide) ?_
          exact hJ34 _ ih _ _ _ _ h
  rw [fX6_potential] at hf
  have h := hf
  refine xw_iconst C (0) dX6_potential_0 (by decide) ?_
  refine xw_istore_n C dX6_potential_1 rfl (by decide) (lv' := [(2, .int (0)), (0, .ref o), (1, .int p1)]) rfl ?_
  refine xw_iconst C (0) dX6_potential_2 (by decide) ?_
  refine xw_istore_n C dX6_potential_3 rfl (by decide) (lv' := [(3, .int (0)), (2, .int (0)), (0, .ref o), (1, .int p1)]) rfl ?_
  refine xw_perm [2, 3, 1, 0] rfl ?_
  exact hL4 _ _ _ _ h
def fX6_count (p1 : Int32) (p2 : Int32) (x : Ob) : Option (Int32 × Ob) :=
  px_let (ob_i x 0 (0)) (fun x_2 =>
  Option.bind (fX6_isTree p1 x_2) (fun q7 =>
  (if q7 = 0 then
    some ((-1), x_2)
  else
    (if p2 = (0) then
      ix p1 8 (fun j73 =>
      some ((x_2.2 2 j73), x_2))
    else
    (if p2 = (1) then
      ix p1 8 (fun j80 =>
      some ((x_2.2 8 j80), x_2))
    else
    (if p2 = (2) then
      ix p1 8 (fun j87 =>
      some ((x_2.2 3 j87), x_2))
    else
    (if p2 = (3) then
      Option.bind (fX6_deepest p1 x_2) (fun q91 =>
      some (q91, x_2))
    else
    (if p2 = (4) then
      ix p1 8 (fun j100 =>
      some ((x_2.2 9 j100), x_2))
    else
    (if p2 = (5) then
      ix p1 8 (fun j107 =>
      some ((x_2.2 10 j107), x_2))
    else
    (if p2 = (6) then
      ix p1 8 (fun j114 =>
      some ((x_2.2 12 j114), x_2))
    else
    (if p2 = (7) then
      Option.bind (fX6_potential p1 x_2) (fun q118 =>
      some (q118, x_2))
    else
    (if p2 = (8) then
      ix p1 8 (fun j127 =>
      some ((x_2.2 11 j127), x_2))
    else
      some ((-1), x_2)))))))))))))
abbrev rmX6_count : Room := { frames := 72, cells := 0, slots := 0, locals := 1586 }
set_option maxHeartbeats 4000000 in
set_option maxRecDepth 100000 in
theorem ok_X6_count {l : Launch} {E : En} {o : Nat} {ad : (Nat → Nat)} {p1 : Int32} {p2 : Int32} {x : Ob} {r : Int32 × Ob} (hf : fX6_count p1 p2 x = some r) : CI l yX6_count wsX6_count (rmX6_count) [.ref o, .int p1, .int p2] E (w6 E o ad x) (w6 E o ad r.2) (r.1) := by
  refine xc_I (by decide) rfl (Nat.le_of_ble_eq_true rfl) [(0, .ref o), (1, .int p1), (2, .int p2)] rfl (fun p e s m below meth c A C hr => ?_)
  generalize ([.ref o, .int p1, .int p2] : List Value).toArray = args at C ⊢
  obtain ⟨Z, hZ⟩ : ∃ Z, Z = ZI E (w6 E o ad r.2) (r.1) A below args s 0 0 := ⟨_, rfl⟩
  rw [← hZ]
  have in6 : ∀ w ∈ wsX60, w ∈ wsX6_count := by decide +kernel
  have m7 : Cond.fieldLink RX6 7 "TurningTreesModel" "kind" "[I" ∈ wsX6_count := by decide +kernel
  have m13 : Cond.fieldLink RX6 13 "TurningTreesModel" "root" "[I" ∈ wsX6_count := by decide +kernel
  have m29 : Cond.fieldLink RX6 29 "TurningTreesModel" "many" "[I" ∈ wsX6_count := by decide +kernel
  have m32 : Cond.fieldLink RX6 32 "TurningTreesModel" "turns" "[I" ∈ wsX6_count := by decide +kernel
  have m35 : Cond.fieldLink RX6 35 "TurningTreesModel" "costs" "[I" ∈ wsX6_count := by decide +kernel
  have m38 : Cond.fieldLink RX6 38 "TurningTreesModel" "most" "[I" ∈ wsX6_count := by decide +kernel
  have m41 : Cond.fieldLink RX6 41 "TurningTreesModel" "asks" "[I" ∈ wsX6_count := by decide +kernel
  have m77 : Cond.fieldLink RX6 77 "TurningTreesModel" "thrown" "I" ∈ wsX6_count := by decide +kernel
  rw [fX6_count] at hf
  have h := hf
  refine xw_aload_n C dX6_count_0 rfl 0 rfl ?_
  refine xw_iconst C (0) dX6_count_1 (by decide) ?_
  refine px_n h (fun x_2 ex_2 h => ?_)
  refine xw_put (w' := w6 E o ad x_2) C in6 tyX6 tyX6_ok nmX6 0 rfl rfl 0 (by decide) m77 rfl rfl rfl (Nat.le_of_ble_eq_true rfl) (by rw [ex_2]; rfl) dX6_count_2 ?_
  refine xw_aload_n C dX6_count_5 rfl 0 rfl ?_
  refine xw_iload_n C dX6_count_6 rfl 1 rfl ?_
  obtain ⟨q7, eq7, h⟩ := px_b h
  refine xw_callVI (w' := w6 E o ad x_2) (u := []) (v := []) C (ok_X6_isTree (o := o) (ad := ad) (x := x_2) eq7) 1 gX6_count_X6_isTree rfl ⟨rfl, rfl⟩ (by decide +kernel) ⟨Nat.le_of_ble_eq_true rfl, Nat.le_of_ble_eq_true rfl⟩ 0 6 rfl rfl rfl (Nat.le_of_ble_eq_true rfl) ⟨Nat.zero_le _, Nat.zero_le _⟩ rfl xe0 xe0.symm dX6_count_7 ?_
  refine xw_if_ne C 15 dX6_count_10 (by decide) (fun c10 => ?_) (fun c10 => ?_)
  · have h := px_f c10 h
    refine xw_iload_n C dX6_count_15 rfl 2 rfl ?_
    refine Or.elim (px_c h) (fun q => ?_) (fun q => ?_)
    · obtain ⟨c16_0, h⟩ := q
      refine xw_tabIn (off := 52) C 68 dX6_count_16 (0) c16_0 (by decide) (by decide) (by decide) (by decide) ?_
      refine xw_aload_n C dX6_count_68 rfl 0 rfl ?_
      refine xw_get C in6 0 rfl rfl 2 (by decide) m7 rfl rfl dX6_count_69 ?_
      refine xw_iload_n C dX6_count_72 rfl 1 rfl ?_
      obtain ⟨g73, h⟩ := px_x h
      refine xw_iald C 1 rfl g73 dX6_count_73 ?_
      cases h
      rw [hZ]
      exact xw_iret C hr dX6_count_74
    obtain ⟨c16_0, h⟩ := q
    refine Or.elim (px_c h) (fun q => ?_) (fun q => ?_)
    · obtain ⟨c16_1, h⟩ := q
      refine xw_tabIn (off := 59) C 75 dX6_count_16 (1) c16_1 (by decide) (by decide) (by decide) (by decide) ?_
      refine xw_aload_n C dX6_count_75 rfl 0 rfl ?_
      refine xw_get C in6 0 rfl rfl 8 (by decide) m29 rfl rfl dX6_count_76 ?_
      refine xw_iload_n C dX6_count_79 rfl 1 rfl ?_
      obtain ⟨g80, h⟩ := px_x h
      refine xw_iald C 7 rfl g80 dX6_count_80 ?_
      cases h
      rw [hZ]
      exact xw_iret C hr dX6_count_81
    obtain ⟨c16_1, h⟩ := q
    refine Or.elim (px_c h) (fun q => ?_) (fun q => ?_)
    · obtain ⟨c16_2, h⟩ := q
      refine xw_tabIn (off := 66) C 82 dX6_count_16 (2) c16_2 (by decide) (by decide) (by decide) (by decide) ?_
      refine xw_aload_n C dX6_count_82 rfl 0 rfl ?_
      refine xw_get C in6 0 rfl rfl 3 (by decide) m13 rfl rfl dX6_count_83 ?_
      refine xw_iload_n C dX6_count_86 rfl 1 rfl ?_
      obtain ⟨g87, h⟩ := px_x h
      refine xw_iald C 2 rfl g87 dX6_count_87 ?_
      cases h
      rw [hZ]
      exact xw_iret C hr dX6_count_88
    obtain ⟨c16_2, h⟩ := q
    refine Or.elim (px_c h) (fun q => ?_) (fun q => ?_)
    · obtain ⟨c16_3, h⟩ := q
      refine xw_tabIn (off := 73) C 89 dX6_count_16 (3) c16_3 (by decide) (by decide) (by decide) (by decide) ?_
      refine xw_aload_n C dX6_count_89 rfl 0 rfl ?_
      refine xw_iload_n C dX6_count_90 rfl 1 rfl ?_
      obtain ⟨q91, eq91, h⟩ := px_b h
      refine xw_callVI (w' := w6 E o ad x_2) (u := []) (v := []) C (ok_X6_deepest (o := o) (ad := ad) (x := x_2) eq91) 1 gX6_count_X6_deepest rfl ⟨rfl, rfl⟩ (by decide +kernel) ⟨Nat.le_of_ble_eq_true rfl, Nat.le_of_ble_eq_true rfl⟩ 0 6 rfl rfl rfl (Nat.le_of_ble_eq_true rfl) ⟨Nat.zero_le _, Nat.zero_le _⟩ rfl xe0 xe0.symm dX6_count_91 ?_
      cases h
      rw [hZ]
      exact xw_iret C hr dX6_count_94
    obtain ⟨c16_3, h⟩ := q
    refine Or.elim (px_c h) (fun q => ?_) (fun q => ?_)
    · obtain ⟨c16_4, h⟩ := q
      refine xw_tabIn (off := 79) C 95 dX6_count_16 (4) c16_4 (by decide) (by decide) (by decide) (by decide) ?_
      refine xw_aload_n C dX6_count_95 rfl 0 rfl ?_
      refine xw_get C in6 0 rfl rfl 9 (by decide) m32 rfl rfl dX6_count_96 ?_
      refine xw_iload_n C dX6_count_99 rfl 1 rfl ?_
      obtain ⟨g100, h⟩ := px_x h
      refine xw_iald C 8 rfl g100 dX6_count_100 ?_
      cases h
      rw [hZ]
      exact xw_iret C hr dX6_count_101
    obtain ⟨c16_4, h⟩ := q
    refine Or.elim (px_c h) (fun q => ?_) (fun q => ?_)
    · obtain ⟨c16_5, h⟩ := q
      refine xw_tabIn (off := 86) C 102 dX6_count_16 (5) c16_5 (by decide) (by decide) (by decide) (by decide) ?_
      refine xw_aload_n C dX6_count_102 rfl 0 rfl ?_
      refine xw_get C in6 0 rfl rfl 10 (by decide) m35 rfl rfl dX6_count_103 ?_
      refine xw_iload_n C dX6_count_106 rfl 1 rfl ?_
      obtain ⟨g107, h⟩ := px_x h
      refine xw_iald C 9 rfl g107 dX6_count_107 ?_
      cases h
      rw [hZ]
      exact xw_iret C hr dX6_count_108
    obtain ⟨c16_5, h⟩ := q
    refine Or.elim (px_c h) (fun q => ?_) (fun q => ?_)
    · obtain ⟨c16_6, h⟩ := q
      refine xw_tabIn (off := 93) C 109 dX6_count_16 (6) c16_6 (by decide) (by decide) (by decide) (by decide) ?_
      refine xw_aload_n C dX6_count_109 rfl 0 rfl ?_
      refine xw_get C in6 0 rfl rfl 12 (by decide) m41 rfl rfl dX6_count_110 ?_
      refine xw_iload_n C dX6_count_113 rfl 1 rfl ?_
      obtain ⟨g114, h⟩ := px_x h
      refine xw_iald C 11 rfl g114 dX6_count_114 ?_
      cases h
      rw [hZ]
      exact xw_iret C hr dX6_count_115
    obtain ⟨c16_6, h⟩ := q
    refine Or.elim (px_c h) (fun q => ?_) (fun q => ?_)
    · obtain ⟨c16_7, h⟩ := q
      refine xw_tabIn (off := 100) C 116 dX6_count_16 (7) c16_7 (by decide) (by decide) (by decide) (by decide) ?_
      refine xw_aload_n C dX6_count_116 rfl 0 rfl ?_
      refine xw_iload_n C dX6_count_117 rfl 1 rfl ?_
      obtain ⟨q118, eq118, h⟩ := px_b h
      refine xw_callVI (w' := w6 E o ad x_2) (u := []) (v := []) C (ok_X6_potential (o := o) (ad := ad) (x := x_2) eq118) 1 gX6_count_X6_potential rfl ⟨rfl, rfl⟩ (by decide +kernel) ⟨Nat.le_of_ble_eq_true rfl, Nat.le_of_ble_eq_true rfl⟩ 0 6 rfl rfl rfl (Nat.le_of_ble_eq_true rfl) ⟨Nat.zero_le _, Nat.zero_le _⟩ rfl xe0 xe0.symm dX6_count_118 ?_
      cases h
      rw [hZ]
      exact xw_iret C hr dX6_count_121
    obtain ⟨c16_7, h⟩ := q
    refine Or.elim (px_c h) (fun q => ?_) (fun q => ?_)
    · obtain ⟨c16_8, h⟩ := q
      refine xw_tabIn (off := 106) C 122 dX6_count_16 (8) c16_8 (by decide) (by decide) (by decide) (by decide) ?_
      refine xw_aload_n C dX6_count_122 rfl 0 rfl ?_
      refine xw_get C in6 0 rfl rfl 11 (by decide) m38 rfl rfl dX6_count_123 ?_
      refine xw_iload_n C dX6_count_126 rfl 1 rfl ?_
      obtain ⟨g127, h⟩ := px_x h
      refine xw_iald C 10 rfl g127 dX6_count_127 ?_
      cases h
      rw [hZ]
      exact xw_iret C hr dX6_count_128
    obtain ⟨c16_8, h⟩ := q
    refine xw_tabOut C 129 dX6_count_16 (by have t0 := xt_ne (k := 0) c16_0 (by decide); have t1 := xt_ne (k := 1) c16_1 (by decide); have t2 := xt_ne (k := 2) c16_2 (by decide); have t3 := xt_ne (k := 3) c16_3 (by decide); have t4 := xt_ne (k := 4) c16_4 (by decide); have t5 := xt_ne (k := 5) c16_5 (by decide); have t6 := xt_ne (k := 6) c16_6 (by decide); have t7 := xt_ne (k := 7) c16_7 (by decide); have t8 := xt_ne (k := 8) c16_8 (by decide); omega) (by decide) ?_
    refine xw_iconst C (-1) dX6_count_129 (by decide) ?_
    cases h
    rw [hZ]
    exact xw_iret C hr dX6_count_130
  · have h := px_t c10 h
    refine xw_iconst C (-1) dX6_count_13 (by decide) ?_
    cases h
    rw [hZ]
    exact xw_iret C hr dX6_count_14
def fX6_bestOf_J99 (k33 : Int32 → Int32 → Int32 → Int32 → Int32 → Ob → Option (Ob)) (v1 : Int32) (v2 : Int32) (v3 : Int32) (v4 : Int32) (v5 : Int32) (x : Ob) : Option (Ob) :=
  px_let (v5 + (1) : Int32) (fun b99 =>
  k33 v1 v2 v3 v4 b99 x)
def fX6_bestOf_J82 (k33 : Int32 → Int32 → Int32 → Int32 → Int32 → Ob → Option (Ob)) (v1 : Int32) (v2 : Int32) (v3 : Int32) (v5 : Int32) (v6 : Int32) (x : Ob) : Option (Ob) :=
  ix (((65) * v1) + v2) 4290 (fun j98 =>
  px_let (ob_a x 21 j98 v5) (fun x_98 =>
  fX6_bestOf_J99 (k33) v1 v2 v3 v6 v5 x_98))
def fX6_bestOf_J105 (v1 : Int32) (v2 : Int32) (v4 : Int32) (x : Ob) : Option (Ob) :=
  ix (((65) * v1) + v2) 4290 (fun j117 =>
  px_let (ob_a x 20 j117 v4) (fun x_117 =>
  some x_117))
def fX6_bestOf_L33 : Nat → Int32 → Int32 → Int32 → Int32 → Int32 → Ob → Option (Ob)
  | 0, _, _, _, _, _, _ => none
  | n + 1, v1, v2, v3, v4, v5, x =>
  (if v2 ≤ v5 then
    fX6_bestOf_J105 v1 v2 v4 x
  else
    ix (((65) * v1) + v5) 4290 (fun j51 =>
    ix (((65) * (v5 + (1))) + v2) 4290 (fun j66 =>
    px_let (((v3 + (x.2 20 j51)) + (x.2 20 j66)) : Int32) (fun b68 =>
    (if v4 < 0 then
      fX6_bestOf_J82 (fX6_bestOf_L33 n) v1 v2 v3 v5 b68 x
    else
      (if v4 ≤ b68 then
        fX6_bestOf_J99 (fX6_bestOf_L33 n) v1 v2 v3 v4 v5 x
      else
        fX6_bestOf_J82 (fX6_bestOf_L33 n) v1 v2 v3 v5 b68 x))))))
def fX6_bestOf_J27 (v1 : Int32) (v2 : Int32) (v3 : Int32) (x : Ob) : Option (Ob) :=
  fX6_bestOf_L33 FU v1 v2 v3 (-1) v1 x
def fX6_bestOf_L5 : Nat → Int32 → Int32 → Int32 → Int32 → Ob → Option (Ob)
  | 0, _, _, _, _, _ => none
  | n + 1, v1, v2, v3, v4, x =>
  (if v2 ≤ v4 then
    fX6_bestOf_J27 v1 v2 v3 x
  else
    ix v4 64 (fun j18 =>
    px_let ((v3 + (x.2 19 j18)) : Int32) (fun b20 =>
    px_let (v4 + (1) : Int32) (fun b21 =>
    fX6_bestOf_L5 n v1 v2 b20 b21 x))))
def fX6_bestOf (p1 : Int32) (p2 : Int32) (x : Ob) : Option (Ob) :=
  fX6_bestOf_L5 FU p1 p2 (0) p1 x
abbrev rmX6_bestOf : Room := { frames := 0, cells := 0, slots := 0, locals := 0 }
set_option maxHeartbeats 4000000 in
set_option maxRecDepth 100000 in
theorem ok_X6_bestOf {l : Launch} {E : En} {o : Nat} {ad : (Nat → Nat)} {p1 : Int32} {p2 : Int32} {x : Ob} {r : Ob} (hf : fX6_bestOf p1 p2 x = some r) : CV l yX6_bestOf wsX6_bestOf (rmX6_bestOf) [.ref o, .int p1, .int p2] E (w6 E o ad x) (w6 E o ad r) := by
  refine xc_V (by decide) rfl (Nat.le_of_ble_eq_true rfl) [(0, .ref o), (1, .int p1), (2, .int p2)] rfl (fun p e s m below meth c A C hr => ?_)
  generalize ([.ref o, .int p1, .int p2] : List Value).toArray = args at C ⊢
  obtain ⟨Z, hZ⟩ : ∃ Z, Z = ZV E (w6 E o ad r) A below args s 0 0 := ⟨_, rfl⟩
  rw [← hZ]
  have in6 : ∀ w ∈ wsX60, w ∈ wsX6_bestOf := by decide +kernel
  have m53 : Cond.fieldLink RX6 53 "TurningTreesModel" "often" "[I" ∈ wsX6_bestOf := by decide +kernel
  have m56 : Cond.fieldLink RX6 56 "TurningTreesModel" "least" "[I" ∈ wsX6_bestOf := by decide +kernel
  have m59 : Cond.fieldLink RX6 59 "TurningTreesModel" "best" "[I" ∈ wsX6_bestOf := by decide +kernel
  have hJ99 : ∀ (k33 : Int32 → Int32 → Int32 → Int32 → Int32 → Ob → Option (Ob)), (∀ (v1 : Int32), ∀ (v2 : Int32), ∀ (v3 : Int32), ∀ (v4 : Int32), ∀ (v5 : Int32), ∀ (x : Ob), k33 v1 v2 v3 v4 v5 x = some r → XW E p l e rmX6_bestOf s m args below meth c Z A 0 0 (w6 E o ad x) 33 7 [(0, .ref o), (1, .int v1), (2, .int v2), (3, .int v3), (4, .int v4), (5, .int v5)] []) → ∀ (v1 : Int32), ∀ (v2 : Int32), ∀ (v3 : Int32), ∀ (v4 : Int32), ∀ (v5 : Int32), ∀ (x : Ob), fX6_bestOf_J99 k33 v1 v2 v3 v4 v5 x = some r → XW E p l e rmX6_bestOf s m args below meth c Z A 0 0 (w6 E o ad x) 99 7 [(0, .ref o), (1, .int v1), (2, .int v2), (3, .int v3), (4, .int v4), (5, .int v5)] [] := by
    intro k33 hk33 v1 v2 v3 v4 v5 x h
    rw [fX6_bestOf_J99] at h
    refine px_n h (fun b99 eb99 h => ?_)
    refine xw_iinc (v := b99) C dX6_bestOf_99 5 rfl eb99 (by decide) (lv' := [(5, .int b99), (0, .ref o), (1, .int v1), (2, .int v2), (3, .int v3), (4, .int v4)]) rfl ?_
    refine xw_goto C 33 dX6_bestOf_102 (by decide) ?_
    refine xw_perm [1, 2, 3, 4, 5, 0] rfl ?_
    exact hk33 _ _ _ _ _ _ h
  have hJ82 : ∀ (k33 : Int32 → Int32 → Int32 → Int32 → Int32 → Ob → Option (Ob)), (∀ (v1 : Int32), ∀ (v2 : Int32), ∀ (v3 : Int32), ∀ (v4 : Int32), ∀ (v5 : Int32), ∀ (x : Ob), k33 v1 v2 v3 v4 v5 x = some r → XW E p l e rmX6_bestOf s m args below meth c Z A 0 0 (w6 E o ad x) 33 7 [(0, .ref o), (1, .int v1), (2, .int v2), (3, .int v3), (4, .int v4), (5, .int v5)] []) → ∀ (v1 : Int32), ∀ (v2 : Int32), ∀ (v3 : Int32), ∀ (v5 : Int32), ∀ (v6 : Int32), ∀ (x : Ob), fX6_bestOf_J82 k33 v1 v2 v3 v5 v6 x = some r → XW E p l e rmX6_bestOf s m args below meth c Z A 0 0 (w6 E o ad x) 82 7 [(0, .ref o), (1, .int v1), (2, .int v2), (3, .int v3), (5, .int v5), (6, .int v6)] [] := by
    intro k33 hk33 v1 v2 v3 v5 v6 x h
    rw [fX6_bestOf_J82] at h
    refine xw_iload C dX6_bestOf_82 5 rfl ?_
    refine xw_istore C dX6_bestOf_84 (by decide) (lv' := [(4, .int v6), (0, .ref o), (1, .int v1), (2, .int v2), (3, .int v3), (5, .int v5), (6, .int v6)]) rfl ?_
    refine xw_aload_n C dX6_bestOf_86 rfl 1 rfl ?_
    refine xw_get C in6 0 rfl rfl 21 (by decide) m59 rfl rfl dX6_bestOf_87 ?_
    refine xw_bipush C (65) dX6_bestOf_90 (by decide) ?_
    refine xw_iload_n C dX6_bestOf_92 rfl 2 rfl ?_
    refine xw_imul C dX6_bestOf_93 ?_
    refine xw_iload_n C dX6_bestOf_94 rfl 3 rfl ?_
    refine xw_iadd C dX6_bestOf_95 ?_
    refine xw_iload C dX6_bestOf_96 5 rfl ?_
    obtain ⟨g98, h⟩ := px_x h
    refine px_n h (fun x_98 ex_98 h => ?_)
    refine xw_iast (w' := w6 E o ad x_98) C 17 rfl g98 (by rw [ex_98]; rfl) dX6_bestOf_98 ?_
    refine xw_perm [1, 2, 3, 4, 0, 5] rfl ?_
    exact hJ99 _ hk33 _ _ _ _ _ _ h
  have hJ105 : ∀ (v1 : Int32), ∀ (v2 : Int32), ∀ (v4 : Int32), ∀ (x : Ob), fX6_bestOf_J105 v1 v2 v4 x = some r → XW E p l e rmX6_bestOf s m args below meth c Z A 0 0 (w6 E o ad x) 105 7 [(0, .ref o), (1, .int v1), (2, .int v2), (4, .int v4)] [] := by
    intro v1 v2 v4 x h
    rw [fX6_bestOf_J105] at h
    refine xw_aload_n C dX6_bestOf_105 rfl 0 rfl ?_
    refine xw_get C in6 0 rfl rfl 20 (by decide) m56 rfl rfl dX6_bestOf_106 ?_
    refine xw_bipush C (65) dX6_bestOf_109 (by decide) ?_
    refine xw_iload_n C dX6_bestOf_111 rfl 1 rfl ?_
    refine xw_imul C dX6_bestOf_112 ?_
    refine xw_iload_n C dX6_bestOf_113 rfl 2 rfl ?_
    refine xw_iadd C dX6_bestOf_114 ?_
    refine xw_iload C dX6_bestOf_115 3 rfl ?_
    obtain ⟨g117, h⟩ := px_x h
    refine px_n h (fun x_117 ex_117 h => ?_)
    refine xw_iast (w' := w6 E o ad x_117) C 16 rfl g117 (by rw [ex_117]; rfl) dX6_bestOf_117 ?_
    cases h
    rw [hZ]
    exact xw_vret C hr dX6_bestOf_118
  have hL33 : ∀ n : Nat, ∀ (v1 : Int32), ∀ (v2 : Int32), ∀ (v3 : Int32), ∀ (v4 : Int32), ∀ (v5 : Int32), ∀ (x : Ob), fX6_bestOf_L33 n v1 v2 v3 v4 v5 x = some r → XW E p l e rmX6_bestOf s m args below meth c Z A 0 0 (w6 E o ad x) 33 7 [(0, .ref o), (1, .int v1), (2, .int v2), (3, .int v3), (4, .int v4), (5, .int v5)] [] := by
    intro n
    induction n with
    | zero =>
      intro v1 v2 v3 v4 v5 x h
      rw [fX6_bestOf_L33] at h
      cases h
    | succ n ih =>
      intro v1 v2 v3 v4 v5 x h
      rw [fX6_bestOf_L33] at h
      refine xw_iload C dX6_bestOf_33 5 rfl ?_
      refine xw_iload_n C dX6_bestOf_35 rfl 2 rfl ?_
      refine xw_icmp_ge C 105 dX6_bestOf_36 (by decide) (fun c36 => ?_) (fun c36 => ?_)
      · have h := px_t c36 h
        refine xw_perm [0, 1, 2, 4] rfl ?_
        exact hJ105 _ _ _ _ h
      · have h := px_f c36 h
        refine xw_iload_n C dX6_bestOf_39 rfl 3 rfl ?_
        refine xw_aload_n C dX6_bestOf_40 rfl 0 rfl ?_
        refine xw_get C in6 0 rfl rfl 20 (by decide) m56 rfl rfl dX6_bestOf_41 ?_
        refine xw_bipush C (65) dX6_bestOf_44 (by decide) ?_
        refine xw_iload_n C dX6_bestOf_46 rfl 1 rfl ?_
        refine xw_imul C dX6_bestOf_47 ?_
        refine xw_iload C dX6_bestOf_48 5 rfl ?_
        refine xw_iadd C dX6_bestOf_50 ?_
        obtain ⟨g51, h⟩ := px_x h
        refine xw_iald C 16 rfl g51 dX6_bestOf_51 ?_
        refine xw_iadd C dX6_bestOf_52 ?_
        refine xw_aload_n C dX6_bestOf_53 rfl 0 rfl ?_
        refine xw_get C in6 0 rfl rfl 20 (by decide) m56 rfl rfl dX6_bestOf_54 ?_
        refine xw_bipush C (65) dX6_bestOf_57 (by decide) ?_
        refine xw_iload C dX6_bestOf_59 5 rfl ?_
        refine xw_iconst C (1) dX6_bestOf_61 (by decide) ?_
        refine xw_iadd C dX6_bestOf_62 ?_
        refine xw_imul C dX6_bestOf_63 ?_
        refine xw_iload_n C dX6_bestOf_64 rfl 2 rfl ?_
        refine xw_iadd C dX6_bestOf_65 ?_
        obtain ⟨g66, h⟩ := px_x h
        refine xw_iald C 16 rfl g66 dX6_bestOf_66 ?_
        refine xw_iadd C dX6_bestOf_67 ?_
        refine xw_topi (fun b68 eb68 => ?_)
        have h := px_v h b68 eb68
        refine xw_istore C dX6_bestOf_68 (by decide) (lv' := [(6, .int b68), (0, .ref o), (1, .int v1), (2, .int v2), (3, .int v3), (4, .int v4), (5, .int v5)]) rfl ?_
        refine xw_iload C dX6_bestOf_70 5 rfl ?_
        refine xw_if_lt C 82 dX6_bestOf_72 (by decide) (fun c72 => ?_) (fun c72 => ?_)
        · have h := px_t c72 h
          refine xw_perm [1, 2, 3, 4, 6, 0] rfl ?_
          exact hJ82 _ ih _ _ _ _ _ _ h
        · have h := px_f c72 h
          refine xw_iload C dX6_bestOf_75 0 rfl ?_
          refine xw_iload C dX6_bestOf_77 5 rfl ?_
          refine xw_icmp_ge C 99 dX6_bestOf_79 (by decide) (fun c79 => ?_) (fun c79 => ?_)
          · have h := px_t c79 h
            refine xw_perm [1, 2, 3, 4, 5, 6] rfl ?_
            exact hJ99 _ ih _ _ _ _ _ _ h
          · have h := px_f c79 h
            refine xw_perm [1, 2, 3, 4, 6, 0] rfl ?_
            exact hJ82 _ ih _ _ _ _ _ _ h
  have hJ27 : ∀ (v1 : Int32), ∀ (v2 : Int32), ∀ (v3 : Int32), ∀ (x : Ob), fX6_bestOf_J27 v1 v2 v3 x = some r → XW E p l e rmX6_bestOf s m args below meth c Z A 0 0 (w6 E o ad x) 27 7 [(0, .ref o), (1, .int v1), (2, .int v2), (3, .int v3)] [] := by
    intro v1 v2 v3 x h
    rw [fX6_bestOf_J27] at h
    refine xw_iconst C (-1) dX6_bestOf_27 (by decide) ?_
    refine xw_istore C dX6_bestOf_28 (by decide) (lv' := [(4, .int (-1)), (0, .ref o), (1, .int v1), (2, .int v2), (3, .int v3)]) rfl ?_
    refine xw_iload_n C dX6_bestOf_30 rfl 2 rfl ?_
    refine xw_istore C dX6_bestOf_31 (by decide) (lv' := [(5, .int v1), (4, .int (-1)), (0, .ref o), (1, .int v1), (2, .int v2), (3, .int v3)]) rfl ?_
    refine xw_perm [2, 3, 4, 5, 1, 0] rfl ?_
    exact hL33 _ _ _ _ _ _ _ h
  have hL5 : ∀ n : Nat, ∀ (v1 : Int32), ∀ (v2 : Int32), ∀ (v3 : Int32), ∀ (v4 : Int32), ∀ (x : Ob), fX6_bestOf_L5 n v1 v2 v3 v4 x = some r → XW E p l e rmX6_bestOf s m args below meth c Z A 0 0 (w6 E o ad x) 5 7 [(0, .ref o), (1, .int v1), (2, .int v2), (3, .int v3), (4, .int v4)] [] := by
    intro n
    induction n with
    | zero =>
      intro v1 v2 v3 v4 x h
      rw [fX6_bestOf_L5] at h
      cases h
    | succ n ih =>
      intro v1 v2 v3 v4 x h
      rw [fX6_bestOf_L5] at h
      refine xw_iload C dX6_bestOf_5 4 rfl ?_
      refine xw_iload_n C dX6_bestOf_7 rfl 2 rfl ?_
      refine xw_icmp_ge C 27 dX6_bestOf_8 (by decide) (fun c8 => ?_) (fun c8 => ?_)
      · have h := px_t c8 h
        refine xw_perm [0, 1, 2, 3] rfl ?_
        exact hJ27 _ _ _ _ h
      · have h := px_f c8 h
        refine xw_iload_n C dX6_bestOf_11 rfl 3 rfl ?_
        refine xw_aload_n C dX6_bestOf_12 rfl 0 rfl ?_
        refine xw_get C in6 0 rfl rfl 19 (by decide) m53 rfl rfl dX6_bestOf_13 ?_
        refine xw_iload C dX6_bestOf_16 4 rfl ?_
        obtain ⟨g18, h⟩ := px_x h
        refine xw_iald C 15 rfl g18 dX6_bestOf_18 ?_
        refine xw_iadd C dX6_bestOf_19 ?_
        refine xw_topi (fun b20 eb20 => ?_)
        have h := px_v h b20 eb20
        refine xw_istore_n C dX6_bestOf_20 rfl (by decide) (lv' := [(3, .int b20), (0, .ref o), (1, .int v1), (2, .int v2), (4, .int v4)]) rfl ?_
        refine px_n h (fun b21 eb21 h => ?_)
        refine xw_iinc (v := b21) C dX6_bestOf_21 4 rfl eb21 (by decide) (lv' := [(4, .int b21), (3, .int b20), (0, .ref o), (1, .int v1), (2, .int v2)]) rfl ?_
        refine xw_goto C 5 dX6_bestOf_24 (by decide) ?_
        refine xw_perm [2, 3, 4, 1, 0] rfl ?_
        exact ih _ _ _ _ _ h
  rw [fX6_bestOf] at hf
  have h := hf
  refine xw_iconst C (0) dX6_bestOf_0 (by decide) ?_
  refine xw_istore_n C dX6_bestOf_1 rfl (by decide) (lv' := [(3, .int (0)), (0, .ref o), (1, .int p1), (2, .int p2)]) rfl ?_
  refine xw_iload_n C dX6_bestOf_2 rfl 2 rfl ?_
  refine xw_istore C dX6_bestOf_3 (by decide) (lv' := [(4, .int p1), (3, .int (0)), (0, .ref o), (1, .int p1), (2, .int p2)]) rfl ?_
  refine xw_perm [2, 3, 4, 1, 0] rfl ?_
  exact hL5 _ _ _ _ _ _ h
