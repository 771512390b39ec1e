section LL
variable {kc ks : Nat} {E : En} {cL : ClassId} {o q u : Nat} {ad bd cd : Nat → Nat} {om : Nat} {am : Nat → Nat} {ol : Nat} {p : Program} {l : Launch} {e : Env} {s : State} {m : MethodId} {args : Array Value} {below : List Frame} {meth : Method} {c : Code} {Zp : State → Prop} {A : Nat → Prop} {pc nL : Nat} {lv : List (Nat × Value)} {st : List Value} {w : va_W} {cc : ByteArray} {ws : List Cond} {own : String}
variable {gg : Nat → Option Nat} {X Y Z M : Ob} {ts : List TD} {fo : Nat → Int64} {b L i : Nat} {xs : Nat → Int32}

theorem xs_ld (C : Cx E p s m args meth c A cc nL ws own) (hX : va_X b L xs s s.heap) (hbl : b < s.heap.size) (hbA : ¬ A b) {i : Int32} (hin : vp_in i L) (d : decode cc pc = .ok (.iaload, 1)) (kk : XW E p l e room_1 s m args below meth c Zp A kc ks w (pc + 1) nL lv (.int (xs i.toNatClampNeg) :: st)) : XW E p l e room_1 s m args below meth c Zp A kc ks w pc nL lv (.int i :: .ref b :: st) := fun H locs ls hP hD hS hl => va_sld C.1 C.2.1 hX hbl hbA hS hin d (kk H locs ls hP hD hS hl)
theorem xs_len (C : Cx E p s m args meth c A cc nL ws own) (hX : va_X b L xs s s.heap) (hbl : b < s.heap.size) (hbA : ¬ A b) (d : decode cc pc = .ok (.arraylength, 1)) (kk : XW E p l e room_1 s m args below meth c Zp A kc ks w (pc + 1) nL lv (.int (nI L) :: st)) : XW E p l e room_1 s m args below meth c Zp A kc ks w pc nL lv (.ref b :: st) := fun H locs ls hP hD hS hl => va_slen C.1 C.2.1 hX hbl hbA hS d (kk H locs ls hP hD hS hl)
theorem xs_arg (C : Cx E p s m args meth c A cc nL ws own) (hX : va_X b L xs s s.heap) (hbl : b < s.heap.size) (hbA : ¬ A b) (hL : L ≤ 2048) (k : Nat) {n : Int} (hk : Int32.ofInt n = nI k) (hik : i + k < L) (j4 j0 : Nat) (h4 : lv[j4]? = some (4, .int (nI i))) (h0 : lv[j0]? = some (0, .ref b)) (d0 : decode cc pc = .ok (.aload_n 0, 1)) (d1 : decode cc (pc + 1) = .ok (.iload 4, 2)) (d2 : decode cc (pc + 3) = .ok (.iconst n, 1)) (d3 : decode cc (pc + 4) = .ok (.iadd, 1)) (d4 : decode cc (pc + 5) = .ok (.iaload, 1)) (kk : XW E p l e room_1 s m args below meth c Zp A kc ks w (pc + 6) nL lv (.int (xs (i + k)) :: st)) : XW E p l e room_1 s m args below meth c Zp A kc ks w pc nL lv st := by
  refine xw_aload_n C d0 rfl j0 h0 ?_
  refine xw_iload C d1 j4 h4 ?_
  refine xw_iconst C (nI k) d2 hk ?_
  refine xw_iadd C d3 ?_
  rw [nI_add]
  refine xs_ld C hX hbl hbA (vp_in_nI hik (by omega)) d4 ?_
  rw [nI_clamp (by omega)]
  exact kk
theorem LW_last : (LW E cL o q u ad bd cd om am ol gg X Y Z ts M fo)[(wTs E ts ++ (wF E o q u ad bd cd gg X Y Z ++ w6 E om am M)).length]? = some (ol, .inl (cL, 1, .inr (.inl fo))) := by
  have h : LW E cL o q u ad bd cd om am ol gg X Y Z ts M fo = (wTs E ts ++ (wF E o q u ad bd cd gg X Y Z ++ w6 E om am M)) ++ [(ol, .inl (cL, 1, .inr (.inl fo)))] := by
    unfold LW wO
    simp only [List.append_assoc]
  rw [h]
  exact get_last _ _
set_option maxHeartbeats 4000000 in
set_option maxRecDepth 100000 in
theorem lw_c0 (C : Cx E p s m args meth c A cL_law 7 wsL_law RL) (hsl : l.stackTraces = false) (hTh : thr A s) (hKL : va_K E.1 vwCl [(cL, .long)] s) (hX : va_X b L xs s s.heap) (hbl : b < s.heap.size) (hbA : ¬ A b) (hL : L ≤ 2048) (hi : i + 4 ≤ L) (inv : Inv gg X Z ts M) (hrm : kc + 9 ≤ room_1.cells ∧ ks + 434 ≤ room_1.slots) (next : ∀ (gg : Nat → Option Nat) (X Y Z : Ob) (ts : List TD) (M : Ob) (fo : Nat → Int64), Inv gg X Z ts M → XW E p l e room_1 s m args below meth c Zp A (kc + 9) (ks + 434) (LW E cL o q u ad bd cd om am ol gg X Y Z ts M fo) 724 7 [(4, .int (nI i)), (3, .ref ol), (2, .ref om), (1, .ref o), (0, .ref b)] []) : XW E p l e room_1 s m args below meth c Zp A kc ks (LW E cL o q u ad bd cd om am ol gg X Y Z ts M fo) 112 7 [(4, .int (nI i)), (3, .ref ol), (2, .ref om), (1, .ref o), (0, .ref b)] [] := by
  refine xw_aload_n C dL_law_112 rfl 3 rfl ?_
  refine xs_arg C hX hbl hbA hL 1 (by decide) (by omega) 0 4 rfl rfl dL_law_113 dL_law_114 dL_law_116 dL_law_117 dL_law_118 ?_
  refine lx_tree C inv (xs (i + 1)) (Nat.le_of_ble_eq_true rfl) hrm dL_law_119 (fun v gg' X' Y' Z' ts' M' hr inv' => ?_)
  refine xw_aload_n C dL_law_122 rfl 2 rfl ?_
  refine xs_arg C hX hbl hbA hL 1 (by decide) (by omega) 0 4 rfl rfl dL_law_123 dL_law_124 dL_law_126 dL_law_127 dL_law_128 ?_
  refine xl_ref C (ok_X6_tree (r := (v, M')) hr) 1 gL_law_X6_tree rfl ⟨rfl, rfl⟩ (by decide +kernel) ⟨Nat.le_of_ble_eq_true rfl, Nat.le_of_ble_eq_true rfl⟩ rfl (Nat.le_of_ble_eq_true rfl) hrm rfl dL_law_129 ?_
  exact xw_icmp_eq C 724 dL_law_132 (by decide) (fun _ => next gg' X' Y' Z' ts' M' fo inv') (fun w9 => absurd rfl w9)
set_option maxHeartbeats 4000000 in
set_option maxRecDepth 100000 in
theorem lw_c1 (C : Cx E p s m args meth c A cL_law 7 wsL_law RL) (hsl : l.stackTraces = false) (hTh : thr A s) (hKL : va_K E.1 vwCl [(cL, .long)] s) (hX : va_X b L xs s s.heap) (hbl : b < s.heap.size) (hbA : ¬ A b) (hL : L ≤ 2048) (hi : i + 4 ≤ L) (inv : Inv gg X Z ts M) (hrm : kc + 9 ≤ room_1.cells ∧ ks + 434 ≤ room_1.slots) (next : ∀ (gg : Nat → Option Nat) (X Y Z : Ob) (ts : List TD) (M : Ob) (fo : Nat → Int64), Inv gg X Z ts M → XW E p l e room_1 s m args below meth c Zp A (kc + 9) (ks + 434) (LW E cL o q u ad bd cd om am ol gg X Y Z ts M fo) 724 7 [(4, .int (nI i)), (3, .ref ol), (2, .ref om), (1, .ref o), (0, .ref b)] []) : XW E p l e room_1 s m args below meth c Zp A kc ks (LW E cL o q u ad bd cd om am ol gg X Y Z ts M fo) 137 7 [(4, .int (nI i)), (3, .ref ol), (2, .ref om), (1, .ref o), (0, .ref b)] [] := by
  refine xw_aload_n C dL_law_137 rfl 3 rfl ?_
  refine xs_arg C hX hbl hbA hL 1 (by decide) (by omega) 0 4 rfl rfl dL_law_138 dL_law_139 dL_law_141 dL_law_142 dL_law_143 ?_
  refine xs_arg C hX hbl hbA hL 2 (by decide) (by omega) 0 4 rfl rfl dL_law_144 dL_law_145 dL_law_147 dL_law_148 dL_law_149 ?_
  refine lx_add C inv (xs (i + 1)) (xs (i + 2)) (Nat.le_of_ble_eq_true rfl) hrm dL_law_150 (fun v gg' X' Y' Z' ts' M' hr inv' => ?_)
  refine xw_aload_n C dL_law_153 rfl 2 rfl ?_
  refine xs_arg C hX hbl hbA hL 1 (by decide) (by omega) 0 4 rfl rfl dL_law_154 dL_law_155 dL_law_157 dL_law_158 dL_law_159 ?_
  refine xs_arg C hX hbl hbA hL 2 (by decide) (by omega) 0 4 rfl rfl dL_law_160 dL_law_161 dL_law_163 dL_law_164 dL_law_165 ?_
  refine xl_ref C (ok_X6_add (r := (v, M')) hr) 2 gL_law_X6_add rfl ⟨rfl, rfl⟩ (by decide +kernel) ⟨Nat.le_of_ble_eq_true rfl, Nat.le_of_ble_eq_true rfl⟩ rfl (Nat.le_of_ble_eq_true rfl) hrm rfl dL_law_166 ?_
  exact xw_icmp_eq C 724 dL_law_169 (by decide) (fun _ => next gg' X' Y' Z' ts' M' fo inv') (fun w9 => absurd rfl w9)
set_option maxHeartbeats 4000000 in
set_option maxRecDepth 100000 in
theorem lw_c2 (C : Cx E p s m args meth c A cL_law 7 wsL_law RL) (hsl : l.stackTraces = false) (hTh : thr A s) (hKL : va_K E.1 vwCl [(cL, .long)] s) (hX : va_X b L xs s s.heap) (hbl : b < s.heap.size) (hbA : ¬ A b) (hL : L ≤ 2048) (hi : i + 4 ≤ L) (inv : Inv gg X Z ts M) (hrm : kc + 9 ≤ room_1.cells ∧ ks + 434 ≤ room_1.slots) (next : ∀ (gg : Nat → Option Nat) (X Y Z : Ob) (ts : List TD) (M : Ob) (fo : Nat → Int64), Inv gg X Z ts M → XW E p l e room_1 s m args below meth c Zp A (kc + 9) (ks + 434) (LW E cL o q u ad bd cd om am ol gg X Y Z ts M fo) 724 7 [(4, .int (nI i)), (3, .ref ol), (2, .ref om), (1, .ref o), (0, .ref b)] []) : XW E p l e room_1 s m args below meth c Zp A kc ks (LW E cL o q u ad bd cd om am ol gg X Y Z ts M fo) 174 7 [(4, .int (nI i)), (3, .ref ol), (2, .ref om), (1, .ref o), (0, .ref b)] [] := by
  refine xw_aload_n C dL_law_174 rfl 3 rfl ?_
  refine xs_arg C hX hbl hbA hL 1 (by decide) (by omega) 0 4 rfl rfl dL_law_175 dL_law_176 dL_law_178 dL_law_179 dL_law_180 ?_
  refine xs_arg C hX hbl hbA hL 2 (by decide) (by omega) 0 4 rfl rfl dL_law_181 dL_law_182 dL_law_184 dL_law_185 dL_law_186 ?_
  refine xw_aload_n C dL_law_187 rfl 1 rfl ?_
  refine lx_ask C hsl hTh hKL inv (xs (i + 1)) (xs (i + 2)) (Nat.le_of_ble_eq_true rfl) hrm dL_law_188 (fun k v f' ts' M' hr inv' hk h01 hv => ?_)
  refine xw_istore C dL_law_191 (by decide) (lv' := (5, .int k) :: [(4, .int (nI i)), (3, .ref ol), (2, .ref om), (1, .ref o), (0, .ref b)]) rfl ?_
  refine xw_aload_n C dL_law_193 rfl 3 rfl ?_
  refine xs_arg C hX hbl hbA hL 1 (by decide) (by omega) 1 5 rfl rfl dL_law_194 dL_law_195 dL_law_197 dL_law_198 dL_law_199 ?_
  refine xs_arg C hX hbl hbA hL 2 (by decide) (by omega) 1 5 rfl rfl dL_law_200 dL_law_201 dL_law_203 dL_law_204 dL_law_205 ?_
  refine xl_ref C (ok_X6_ask (r := (v, M')) hr) 2 gL_law_X6_ask rfl ⟨rfl, rfl⟩ (by decide +kernel) ⟨Nat.le_of_ble_eq_true rfl, Nat.le_of_ble_eq_true rfl⟩ rfl (Nat.le_of_ble_eq_true rfl) hrm rfl dL_law_206 ?_
  refine xw_istore C dL_law_209 (by decide) (lv' := (6, .int v) :: (5, .int k) :: [(4, .int (nI i)), (3, .ref ol), (2, .ref om), (1, .ref o), (0, .ref b)]) rfl ?_
  refine xw_aload_n C dL_law_211 rfl 4 rfl ?_
  refine xl_ref C (ok_X6_thrown (r := M'.1 0) rfl) 0 gL_law_X6_thrown rfl ⟨rfl, rfl⟩ (by decide +kernel) ⟨Nat.le_of_ble_eq_true rfl, Nat.le_of_ble_eq_true rfl⟩ (As := []) rfl (Nat.le_of_ble_eq_true rfl) hrm rfl dL_law_212 ?_
  refine xw_iload C dL_law_215 1 rfl ?_
  refine xw_icmp_eq C 222 dL_law_217 (by decide) (fun _ => ?_) (fun w9 => absurd hk w9)
  refine xw_iload C dL_law_222 1 rfl ?_
  have fin : XW E p l e room_1 s m args below meth c Zp A (kc + 9) (ks + 434) (LW E cL o q u ad bd cd om am ol gg X Y Z ts' M' f') 239 7 ((6, .int v) :: (5, .int k) :: [(4, .int (nI i)), (3, .ref ol), (2, .ref om), (1, .ref o), (0, .ref b)]) [] := xw_goto C 724 dL_law_239 (by decide) (xw_perm [2, 3, 4, 5, 6] rfl (next gg X Y Z ts' M' f' inv'))
  refine xw_if_ne C 239 dL_law_224 (by decide) (fun _ => fin) (fun w9 => ?_)
  refine xw_aload_n C dL_law_227 rfl 3 rfl ?_
  refine xw_iconst C 0 dL_law_228 (by decide) ?_
  refine xw_lald C hKL _ LW_last (show vp_in (nI 0) 1 from vp_in_nI (by decide) (by decide)) dL_law_229 ?_
  refine xw_iload C dL_law_230 0 rfl ?_
  refine xw_i2l C dL_law_232 ?_
  refine xw_lcmp C dL_law_233 ?_
  exact xw_if_eq C 239 dL_law_234 (by decide) (fun _ => fin) (fun w8 => absurd ((lg_cmp_eq _ _).mpr (hv w9)) w8)
set_option maxHeartbeats 4000000 in
set_option maxRecDepth 100000 in
theorem lw_c3 (C : Cx E p s m args meth c A cL_law 7 wsL_law RL) (hsl : l.stackTraces = false) (hTh : thr A s) (hKL : va_K E.1 vwCl [(cL, .long)] s) (hX : va_X b L xs s s.heap) (hbl : b < s.heap.size) (hbA : ¬ A b) (hL : L ≤ 2048) (hi : i + 4 ≤ L) (inv : Inv gg X Z ts M) (hrm : kc + 9 ≤ room_1.cells ∧ ks + 434 ≤ room_1.slots) (next : ∀ (gg : Nat → Option Nat) (X Y Z : Ob) (ts : List TD) (M : Ob) (fo : Nat → Int64), Inv gg X Z ts M → XW E p l e room_1 s m args below meth c Zp A (kc + 9) (ks + 434) (LW E cL o q u ad bd cd om am ol gg X Y Z ts M fo) 724 7 [(4, .int (nI i)), (3, .ref ol), (2, .ref om), (1, .ref o), (0, .ref b)] []) : XW E p l e room_1 s m args below meth c Zp A kc ks (LW E cL o q u ad bd cd om am ol gg X Y Z ts M fo) 242 7 [(4, .int (nI i)), (3, .ref ol), (2, .ref om), (1, .ref o), (0, .ref b)] [] := by
  refine xw_aload_n C dL_law_242 rfl 3 rfl ?_
  refine xs_arg C hX hbl hbA hL 1 (by decide) (by omega) 0 4 rfl rfl dL_law_243 dL_law_244 dL_law_246 dL_law_247 dL_law_248 ?_
  refine xs_arg C hX hbl hbA hL 2 (by decide) (by omega) 0 4 rfl rfl dL_law_249 dL_law_250 dL_law_252 dL_law_253 dL_law_254 ?_
  refine xw_aload_n C dL_law_255 rfl 1 rfl ?_
  refine lx_remove C hsl hTh hKL inv (xs (i + 1)) (xs (i + 2)) (Nat.le_of_ble_eq_true rfl) hrm dL_law_256 (fun k v f' ts' M' hr inv' hk h01 hv => ?_)
  refine xw_istore C dL_law_259 (by decide) (lv' := (5, .int k) :: [(4, .int (nI i)), (3, .ref ol), (2, .ref om), (1, .ref o), (0, .ref b)]) rfl ?_
  refine xw_aload_n C dL_law_261 rfl 3 rfl ?_
  refine xs_arg C hX hbl hbA hL 1 (by decide) (by omega) 1 5 rfl rfl dL_law_262 dL_law_263 dL_law_265 dL_law_266 dL_law_267 ?_
  refine xs_arg C hX hbl hbA hL 2 (by decide) (by omega) 1 5 rfl rfl dL_law_268 dL_law_269 dL_law_271 dL_law_272 dL_law_273 ?_
  refine xl_ref C (ok_X6_remove (r := (v, M')) hr) 2 gL_law_X6_remove rfl ⟨rfl, rfl⟩ (by decide +kernel) ⟨Nat.le_of_ble_eq_true rfl, Nat.le_of_ble_eq_true rfl⟩ rfl (Nat.le_of_ble_eq_true rfl) hrm rfl dL_law_274 ?_
  refine xw_istore C dL_law_277 (by decide) (lv' := (6, .int v) :: (5, .int k) :: [(4, .int (nI i)), (3, .ref ol), (2, .ref om), (1, .ref o), (0, .ref b)]) rfl ?_
  refine xw_aload_n C dL_law_279 rfl 4 rfl ?_
  refine xl_ref C (ok_X6_thrown (r := M'.1 0) rfl) 0 gL_law_X6_thrown rfl ⟨rfl, rfl⟩ (by decide +kernel) ⟨Nat.le_of_ble_eq_true rfl, Nat.le_of_ble_eq_true rfl⟩ (As := []) rfl (Nat.le_of_ble_eq_true rfl) hrm rfl dL_law_280 ?_
  refine xw_iload C dL_law_283 1 rfl ?_
  refine xw_icmp_eq C 290 dL_law_285 (by decide) (fun _ => ?_) (fun w9 => absurd hk w9)
  refine xw_iload C dL_law_290 1 rfl ?_
  have fin : XW E p l e room_1 s m args below meth c Zp A (kc + 9) (ks + 434) (LW E cL o q u ad bd cd om am ol gg X Y Z ts' M' f') 307 7 ((6, .int v) :: (5, .int k) :: [(4, .int (nI i)), (3, .ref ol), (2, .ref om), (1, .ref o), (0, .ref b)]) [] := xw_goto C 724 dL_law_307 (by decide) (xw_perm [2, 3, 4, 5, 6] rfl (next gg X Y Z ts' M' f' inv'))
  refine xw_if_ne C 307 dL_law_292 (by decide) (fun _ => fin) (fun w9 => ?_)
  refine xw_aload_n C dL_law_295 rfl 3 rfl ?_
  refine xw_iconst C 0 dL_law_296 (by decide) ?_
  refine xw_lald C hKL _ LW_last (show vp_in (nI 0) 1 from vp_in_nI (by decide) (by decide)) dL_law_297 ?_
  refine xw_iload C dL_law_298 0 rfl ?_
  refine xw_i2l C dL_law_300 ?_
  refine xw_lcmp C dL_law_301 ?_
  exact xw_if_eq C 307 dL_law_302 (by decide) (fun _ => fin) (fun w8 => absurd ((lg_cmp_eq _ _).mpr (hv w9)) w8)
set_option maxHeartbeats 4000000 in
set_option maxRecDepth 100000 in
theorem lw_c4 (C : Cx E p s m args meth c A cL_law 7 wsL_law RL) (hsl : l.stackTraces = false) (hTh : thr A s) (hKL : va_K E.1 vwCl [(cL, .long)] s) (hX : va_X b L xs s s.heap) (hbl : b < s.heap.size) (hbA : ¬ A b) (hL : L ≤ 2048) (hi : i + 4 ≤ L) (inv : Inv gg X Z ts M) (hrm : kc + 9 ≤ room_1.cells ∧ ks + 434 ≤ room_1.slots) (next : ∀ (gg : Nat → Option Nat) (X Y Z : Ob) (ts : List TD) (M : Ob) (fo : Nat → Int64), Inv gg X Z ts M → XW E p l e room_1 s m args below meth c Zp A (kc + 9) (ks + 434) (LW E cL o q u ad bd cd om am ol gg X Y Z ts M fo) 724 7 [(4, .int (nI i)), (3, .ref ol), (2, .ref om), (1, .ref o), (0, .ref b)] []) : XW E p l e room_1 s m args below meth c Zp A kc ks (LW E cL o q u ad bd cd om am ol gg X Y Z ts M fo) 310 7 [(4, .int (nI i)), (3, .ref ol), (2, .ref om), (1, .ref o), (0, .ref b)] [] := by
  refine xw_aload_n C dL_law_310 rfl 3 rfl ?_
  refine xs_arg C hX hbl hbA hL 1 (by decide) (by omega) 0 4 rfl rfl dL_law_311 dL_law_312 dL_law_314 dL_law_315 dL_law_316 ?_
  refine xs_arg C hX hbl hbA hL 2 (by decide) (by omega) 0 4 rfl rfl dL_law_317 dL_law_318 dL_law_320 dL_law_321 dL_law_322 ?_
  refine lx_split C inv (xs (i + 1)) (xs (i + 2)) (Nat.le_of_ble_eq_true rfl) hrm dL_law_323 (fun v gg' X' Y' Z' ts' M' hr inv' => ?_)
  refine xw_aload_n C dL_law_326 rfl 2 rfl ?_
  refine xs_arg C hX hbl hbA hL 1 (by decide) (by omega) 0 4 rfl rfl dL_law_327 dL_law_328 dL_law_330 dL_law_331 dL_law_332 ?_
  refine xs_arg C hX hbl hbA hL 2 (by decide) (by omega) 0 4 rfl rfl dL_law_333 dL_law_334 dL_law_336 dL_law_337 dL_law_338 ?_
  refine xl_ref C (ok_X6_split (r := (v, M')) hr) 2 gL_law_X6_split rfl ⟨rfl, rfl⟩ (by decide +kernel) ⟨Nat.le_of_ble_eq_true rfl, Nat.le_of_ble_eq_true rfl⟩ rfl (Nat.le_of_ble_eq_true rfl) hrm rfl dL_law_339 ?_
  exact xw_icmp_eq C 724 dL_law_342 (by decide) (fun _ => next gg' X' Y' Z' ts' M' fo inv') (fun w9 => absurd rfl w9)
set_option maxHeartbeats 4000000 in
set_option maxRecDepth 100000 in
theorem lw_c5 (C : Cx E p s m args meth c A cL_law 7 wsL_law RL) (hsl : l.stackTraces = false) (hTh : thr A s) (hKL : va_K E.1 vwCl [(cL, .long)] s) (hX : va_X b L xs s s.heap) (hbl : b < s.heap.size) (hbA : ¬ A b) (hL : L ≤ 2048) (hi : i + 4 ≤ L) (inv : Inv gg X Z ts M) (hrm : kc + 9 ≤ room_1.cells ∧ ks + 434 ≤ room_1.slots) (next : ∀ (gg : Nat → Option Nat) (X Y Z : Ob) (ts : List TD) (M : Ob) (fo : Nat → Int64), Inv gg X Z ts M → XW E p l e room_1 s m args below meth c Zp A (kc + 9) (ks + 434) (LW E cL o q u ad bd cd om am ol gg X Y Z ts M fo) 724 7 [(4, .int (nI i)), (3, .ref ol), (2, .ref om), (1, .ref o), (0, .ref b)] []) : XW E p l e room_1 s m args below meth c Zp A kc ks (LW E cL o q u ad bd cd om am ol gg X Y Z ts M fo) 347 7 [(4, .int (nI i)), (3, .ref ol), (2, .ref om), (1, .ref o), (0, .ref b)] [] := by
  refine xw_aload_n C dL_law_347 rfl 3 rfl ?_
  refine xs_arg C hX hbl hbA hL 1 (by decide) (by omega) 0 4 rfl rfl dL_law_348 dL_law_349 dL_law_351 dL_law_352 dL_law_353 ?_
  refine xs_arg C hX hbl hbA hL 2 (by decide) (by omega) 0 4 rfl rfl dL_law_354 dL_law_355 dL_law_357 dL_law_358 dL_law_359 ?_
  refine lx_join C inv (xs (i + 1)) (xs (i + 2)) (Nat.le_of_ble_eq_true rfl) hrm dL_law_360 (fun v gg' X' Y' Z' ts' M' hr inv' => ?_)
  refine xw_aload_n C dL_law_363 rfl 2 rfl ?_
  refine xs_arg C hX hbl hbA hL 1 (by decide) (by omega) 0 4 rfl rfl dL_law_364 dL_law_365 dL_law_367 dL_law_368 dL_law_369 ?_
  refine xs_arg C hX hbl hbA hL 2 (by decide) (by omega) 0 4 rfl rfl dL_law_370 dL_law_371 dL_law_373 dL_law_374 dL_law_375 ?_
  refine xl_ref C (ok_X6_join (r := (v, M')) hr) 2 gL_law_X6_join rfl ⟨rfl, rfl⟩ (by decide +kernel) ⟨Nat.le_of_ble_eq_true rfl, Nat.le_of_ble_eq_true rfl⟩ rfl (Nat.le_of_ble_eq_true rfl) hrm rfl dL_law_376 ?_
  exact xw_icmp_eq C 724 dL_law_379 (by decide) (fun _ => next gg' X' Y' Z' ts' M' fo inv') (fun w9 => absurd rfl w9)
set_option maxHeartbeats 4000000 in
set_option maxRecDepth 100000 in
theorem lw_c6 (C : Cx E p s m args meth c A cL_law 7 wsL_law RL) (hsl : l.stackTraces = false) (hTh : thr A s) (hKL : va_K E.1 vwCl [(cL, .long)] s) (hX : va_X b L xs s s.heap) (hbl : b < s.heap.size) (hbA : ¬ A b) (hL : L ≤ 2048) (hi : i + 4 ≤ L) (inv : Inv gg X Z ts M) (hrm : kc + 9 ≤ room_1.cells ∧ ks + 434 ≤ room_1.slots) (next : ∀ (gg : Nat → Option Nat) (X Y Z : Ob) (ts : List TD) (M : Ob) (fo : Nat → Int64), Inv gg X Z ts M → XW E p l e room_1 s m args below meth c Zp A (kc + 9) (ks + 434) (LW E cL o q u ad bd cd om am ol gg X Y Z ts M fo) 724 7 [(4, .int (nI i)), (3, .ref ol), (2, .ref om), (1, .ref o), (0, .ref b)] []) : XW E p l e room_1 s m args below meth c Zp A kc ks (LW E cL o q u ad bd cd om am ol gg X Y Z ts M fo) 384 7 [(4, .int (nI i)), (3, .ref ol), (2, .ref om), (1, .ref o), (0, .ref b)] [] := by
  refine xw_aload_n C dL_law_384 rfl 3 rfl ?_
  refine xs_arg C hX hbl hbA hL 1 (by decide) (by omega) 0 4 rfl rfl dL_law_385 dL_law_386 dL_law_388 dL_law_389 dL_law_390 ?_
  refine lx_clear C inv (xs (i + 1)) (Nat.le_of_ble_eq_true rfl) hrm dL_law_391 (fun v gg' X' Y' Z' ts' M' hr inv' => ?_)
  refine xw_aload_n C dL_law_394 rfl 2 rfl ?_
  refine xs_arg C hX hbl hbA hL 1 (by decide) (by omega) 0 4 rfl rfl dL_law_395 dL_law_396 dL_law_398 dL_law_399 dL_law_400 ?_
  refine xl_ref C (ok_X6_clear (r := (v, M')) hr) 1 gL_law_X6_clear rfl ⟨rfl, rfl⟩ (by decide +kernel) ⟨Nat.le_of_ble_eq_true rfl, Nat.le_of_ble_eq_true rfl⟩ rfl (Nat.le_of_ble_eq_true rfl) hrm rfl dL_law_401 ?_
  exact xw_icmp_eq C 724 dL_law_404 (by decide) (fun _ => next gg' X' Y' Z' ts' M' fo inv') (fun w9 => absurd rfl w9)
set_option maxHeartbeats 4000000 in
set_option maxRecDepth 100000 in
theorem lw_c7 (C : Cx E p s m args meth c A cL_law 7 wsL_law RL) (hsl : l.stackTraces = false) (hTh : thr A s) (hKL : va_K E.1 vwCl [(cL, .long)] s) (hX : va_X b L xs s s.heap) (hbl : b < s.heap.size) (hbA : ¬ A b) (hL : L ≤ 2048) (hi : i + 4 ≤ L) (inv : Inv gg X Z ts M) (hrm : kc + 9 ≤ room_1.cells ∧ ks + 434 ≤ room_1.slots) (next : ∀ (gg : Nat → Option Nat) (X Y Z : Ob) (ts : List TD) (M : Ob) (fo : Nat → Int64), Inv gg X Z ts M → XW E p l e room_1 s m args below meth c Zp A (kc + 9) (ks + 434) (LW E cL o q u ad bd cd om am ol gg X Y Z ts M fo) 724 7 [(4, .int (nI i)), (3, .ref ol), (2, .ref om), (1, .ref o), (0, .ref b)] []) : XW E p l e room_1 s m args below meth c Zp A kc ks (LW E cL o q u ad bd cd om am ol gg X Y Z ts M fo) 409 7 [(4, .int (nI i)), (3, .ref ol), (2, .ref om), (1, .ref o), (0, .ref b)] [] := by
  refine xw_aload_n C dL_law_409 rfl 3 rfl ?_
  refine xs_arg C hX hbl hbA hL 1 (by decide) (by omega) 0 4 rfl rfl dL_law_410 dL_law_411 dL_law_413 dL_law_414 dL_law_415 ?_
  refine xs_arg C hX hbl hbA hL 2 (by decide) (by omega) 0 4 rfl rfl dL_law_416 dL_law_417 dL_law_419 dL_law_420 dL_law_421 ?_
  refine xs_arg C hX hbl hbA hL 3 (by decide) (by omega) 0 4 rfl rfl dL_law_422 dL_law_423 dL_law_425 dL_law_426 dL_law_427 ?_
  refine xw_aload_n C dL_law_428 rfl 1 rfl ?_
  refine lx_look C hsl hTh hKL inv (xs (i + 1)) (xs (i + 2)) (xs (i + 3)) (Nat.le_of_ble_eq_true rfl) hrm dL_law_429 (fun k v f' ts' M' hr inv' hk h01 hv => ?_)
  refine xw_istore C dL_law_432 (by decide) (lv' := (5, .int k) :: [(4, .int (nI i)), (3, .ref ol), (2, .ref om), (1, .ref o), (0, .ref b)]) rfl ?_
  refine xw_aload_n C dL_law_434 rfl 3 rfl ?_
  refine xs_arg C hX hbl hbA hL 1 (by decide) (by omega) 1 5 rfl rfl dL_law_435 dL_law_436 dL_law_438 dL_law_439 dL_law_440 ?_
  refine xs_arg C hX hbl hbA hL 2 (by decide) (by omega) 1 5 rfl rfl dL_law_441 dL_law_442 dL_law_444 dL_law_445 dL_law_446 ?_
  refine xs_arg C hX hbl hbA hL 3 (by decide) (by omega) 1 5 rfl rfl dL_law_447 dL_law_448 dL_law_450 dL_law_451 dL_law_452 ?_
  refine xl_ref C (ok_X6_look (r := (v, M')) hr) 3 gL_law_X6_look rfl ⟨rfl, rfl⟩ (by decide +kernel) ⟨Nat.le_of_ble_eq_true rfl, Nat.le_of_ble_eq_true rfl⟩ rfl (Nat.le_of_ble_eq_true rfl) hrm rfl dL_law_453 ?_
  refine xw_istore C dL_law_456 (by decide) (lv' := (6, .int v) :: (5, .int k) :: [(4, .int (nI i)), (3, .ref ol), (2, .ref om), (1, .ref o), (0, .ref b)]) rfl ?_
  refine xw_aload_n C dL_law_458 rfl 4 rfl ?_
  refine xl_ref C (ok_X6_thrown (r := M'.1 0) rfl) 0 gL_law_X6_thrown rfl ⟨rfl, rfl⟩ (by decide +kernel) ⟨Nat.le_of_ble_eq_true rfl, Nat.le_of_ble_eq_true rfl⟩ (As := []) rfl (Nat.le_of_ble_eq_true rfl) hrm rfl dL_law_459 ?_
  refine xw_iload C dL_law_462 1 rfl ?_
  refine xw_icmp_eq C 469 dL_law_464 (by decide) (fun _ => ?_) (fun w9 => absurd hk w9)
  refine xw_iload C dL_law_469 1 rfl ?_
  have fin : XW E p l e room_1 s m args below meth c Zp A (kc + 9) (ks + 434) (LW E cL o q u ad bd cd om am ol gg X Y Z ts' M' f') 486 7 ((6, .int v) :: (5, .int k) :: [(4, .int (nI i)), (3, .ref ol), (2, .ref om), (1, .ref o), (0, .ref b)]) [] := xw_goto C 724 dL_law_486 (by decide) (xw_perm [2, 3, 4, 5, 6] rfl (next gg X Y Z ts' M' f' inv'))
  refine xw_if_ne C 486 dL_law_471 (by decide) (fun _ => fin) (fun w9 => ?_)
  refine xw_aload_n C dL_law_474 rfl 3 rfl ?_
  refine xw_iconst C 0 dL_law_475 (by decide) ?_
  refine xw_lald C hKL _ LW_last (show vp_in (nI 0) 1 from vp_in_nI (by decide) (by decide)) dL_law_476 ?_
  refine xw_iload C dL_law_477 0 rfl ?_
  refine xw_i2l C dL_law_479 ?_
  refine xw_lcmp C dL_law_480 ?_
  exact xw_if_eq C 486 dL_law_481 (by decide) (fun _ => fin) (fun w8 => absurd ((lg_cmp_eq _ _).mpr (hv w9)) w8)
set_option maxHeartbeats 4000000 in
set_option maxRecDepth 100000 in
theorem lw_c8 (C : Cx E p s m args meth c A cL_law 7 wsL_law RL) (hsl : l.stackTraces = false) (hTh : thr A s) (hKL : va_K E.1 vwCl [(cL, .long)] s) (hX : va_X b L xs s s.heap) (hbl : b < s.heap.size) (hbA : ¬ A b) (hL : L ≤ 2048) (hi : i + 4 ≤ L) (inv : Inv gg X Z ts M) (hrm : kc + 9 ≤ room_1.cells ∧ ks + 434 ≤ room_1.slots) (next : ∀ (gg : Nat → Option Nat) (X Y Z : Ob) (ts : List TD) (M : Ob) (fo : Nat → Int64), Inv gg X Z ts M → XW E p l e room_1 s m args below meth c Zp A (kc + 9) (ks + 434) (LW E cL o q u ad bd cd om am ol gg X Y Z ts M fo) 724 7 [(4, .int (nI i)), (3, .ref ol), (2, .ref om), (1, .ref o), (0, .ref b)] []) : XW E p l e room_1 s m args below meth c Zp A kc ks (LW E cL o q u ad bd cd om am ol gg X Y Z ts M fo) 489 7 [(4, .int (nI i)), (3, .ref ol), (2, .ref om), (1, .ref o), (0, .ref b)] [] := by
  refine xw_aload_n C dL_law_489 rfl 3 rfl ?_
  refine xs_arg C hX hbl hbA hL 1 (by decide) (by omega) 0 4 rfl rfl dL_law_490 dL_law_491 dL_law_493 dL_law_494 dL_law_495 ?_
  refine xs_arg C hX hbl hbA hL 2 (by decide) (by omega) 0 4 rfl rfl dL_law_496 dL_law_497 dL_law_499 dL_law_500 dL_law_501 ?_
  refine lx_count C inv (xs (i + 1)) (xs (i + 2)) (Nat.le_of_ble_eq_true rfl) hrm dL_law_502 (fun v gg' X' Y' Z' ts' M' hr inv' => ?_)
  refine xw_aload_n C dL_law_505 rfl 2 rfl ?_
  refine xs_arg C hX hbl hbA hL 1 (by decide) (by omega) 0 4 rfl rfl dL_law_506 dL_law_507 dL_law_509 dL_law_510 dL_law_511 ?_
  refine xs_arg C hX hbl hbA hL 2 (by decide) (by omega) 0 4 rfl rfl dL_law_512 dL_law_513 dL_law_515 dL_law_516 dL_law_517 ?_
  refine xl_ref C (ok_X6_count (r := (v, M')) hr) 2 gL_law_X6_count rfl ⟨rfl, rfl⟩ (by decide +kernel) ⟨Nat.le_of_ble_eq_true rfl, Nat.le_of_ble_eq_true rfl⟩ rfl (Nat.le_of_ble_eq_true rfl) hrm rfl dL_law_518 ?_
  exact xw_icmp_eq C 724 dL_law_521 (by decide) (fun _ => next gg' X' Y' Z' ts' M' fo inv') (fun w9 => absurd rfl w9)
set_option maxHeartbeats 4000000 in
set_option maxRecDepth 100000 in
theorem lw_c9 (C : Cx E p s m args meth c A cL_law 7 wsL_law RL) (hsl : l.stackTraces = false) (hTh : thr A s) (hKL : va_K E.1 vwCl [(cL, .long)] s) (hX : va_X b L xs s s.heap) (hbl : b < s.heap.size) (hbA : ¬ A b) (hL : L ≤ 2048) (hi : i + 4 ≤ L) (inv : Inv gg X Z ts M) (hrm : kc + 9 ≤ room_1.cells ∧ ks + 434 ≤ room_1.slots) (next : ∀ (gg : Nat → Option Nat) (X Y Z : Ob) (ts : List TD) (M : Ob) (fo : Nat → Int64), Inv gg X Z ts M → XW E p l e room_1 s m args below meth c Zp A (kc + 9) (ks + 434) (LW E cL o q u ad bd cd om am ol gg X Y Z ts M fo) 724 7 [(4, .int (nI i)), (3, .ref ol), (2, .ref om), (1, .ref o), (0, .ref b)] []) : XW E p l e room_1 s m args below meth c Zp A kc ks (LW E cL o q u ad bd cd om am ol gg X Y Z ts M fo) 526 7 [(4, .int (nI i)), (3, .ref ol), (2, .ref om), (1, .ref o), (0, .ref b)] [] := by
  refine xw_aload_n C dL_law_526 rfl 3 rfl ?_
  refine xs_arg C hX hbl hbA hL 1 (by decide) (by omega) 0 4 rfl rfl dL_law_527 dL_law_528 dL_law_530 dL_law_531 dL_law_532 ?_
  refine xs_arg C hX hbl hbA hL 2 (by decide) (by omega) 0 4 rfl rfl dL_law_533 dL_law_534 dL_law_536 dL_law_537 dL_law_538 ?_
  refine lx_best C inv (xs (i + 1)) (xs (i + 2)) (Nat.le_of_ble_eq_true rfl) hrm dL_law_539 (fun v gg' X' Y' Z' ts' M' hr inv' => ?_)
  refine xw_aload_n C dL_law_542 rfl 2 rfl ?_
  refine xs_arg C hX hbl hbA hL 1 (by decide) (by omega) 0 4 rfl rfl dL_law_543 dL_law_544 dL_law_546 dL_law_547 dL_law_548 ?_
  refine xs_arg C hX hbl hbA hL 2 (by decide) (by omega) 0 4 rfl rfl dL_law_549 dL_law_550 dL_law_552 dL_law_553 dL_law_554 ?_
  refine xl_ref C (ok_X6_best (r := (v, M')) hr) 2 gL_law_X6_best rfl ⟨rfl, rfl⟩ (by decide +kernel) ⟨Nat.le_of_ble_eq_true rfl, Nat.le_of_ble_eq_true rfl⟩ rfl (Nat.le_of_ble_eq_true rfl) hrm rfl dL_law_555 ?_
  exact xw_icmp_eq C 724 dL_law_558 (by decide) (fun _ => next gg' X' Y' Z' ts' M' fo inv') (fun w9 => absurd rfl w9)
set_option maxHeartbeats 4000000 in
set_option maxRecDepth 100000 in
theorem lw_c10 (C : Cx E p s m args meth c A cL_law 7 wsL_law RL) (hsl : l.stackTraces = false) (hTh : thr A s) (hKL : va_K E.1 vwCl [(cL, .long)] s) (hX : va_X b L xs s s.heap) (hbl : b < s.heap.size) (hbA : ¬ A b) (hL : L ≤ 2048) (hi : i + 4 ≤ L) (inv : Inv gg X Z ts M) (hrm : kc + 9 ≤ room_1.cells ∧ ks + 434 ≤ room_1.slots) (next : ∀ (gg : Nat → Option Nat) (X Y Z : Ob) (ts : List TD) (M : Ob) (fo : Nat → Int64), Inv gg X Z ts M → XW E p l e room_1 s m args below meth c Zp A (kc + 9) (ks + 434) (LW E cL o q u ad bd cd om am ol gg X Y Z ts M fo) 724 7 [(4, .int (nI i)), (3, .ref ol), (2, .ref om), (1, .ref o), (0, .ref b)] []) : XW E p l e room_1 s m args below meth c Zp A kc ks (LW E cL o q u ad bd cd om am ol gg X Y Z ts M fo) 563 7 [(4, .int (nI i)), (3, .ref ol), (2, .ref om), (1, .ref o), (0, .ref b)] [] := by
  refine xw_aload_n C dL_law_563 rfl 3 rfl ?_
  refine xs_arg C hX hbl hbA hL 1 (by decide) (by omega) 0 4 rfl rfl dL_law_564 dL_law_565 dL_law_567 dL_law_568 dL_law_569 ?_
  refine lx_interleave C inv (xs (i + 1)) (Nat.le_of_ble_eq_true rfl) hrm dL_law_570 (fun v gg' X' Y' Z' ts' M' hr inv' => ?_)
  refine xw_aload_n C dL_law_573 rfl 2 rfl ?_
  refine xs_arg C hX hbl hbA hL 1 (by decide) (by omega) 0 4 rfl rfl dL_law_574 dL_law_575 dL_law_577 dL_law_578 dL_law_579 ?_
  refine xl_ref C (ok_X6_interleave (r := (v, M')) hr) 1 gL_law_X6_interleave rfl ⟨rfl, rfl⟩ (by decide +kernel) ⟨Nat.le_of_ble_eq_true rfl, Nat.le_of_ble_eq_true rfl⟩ rfl (Nat.le_of_ble_eq_true rfl) hrm rfl dL_law_580 ?_
  exact xw_icmp_eq C 724 dL_law_583 (by decide) (fun _ => next gg' X' Y' Z' ts' M' fo inv') (fun w9 => absurd rfl w9)
set_option maxHeartbeats 4000000 in
set_option maxRecDepth 100000 in
theorem lw_c11 (C : Cx E p s m args meth c A cL_law 7 wsL_law RL) (hsl : l.stackTraces = false) (hTh : thr A s) (hKL : va_K E.1 vwCl [(cL, .long)] s) (hX : va_X b L xs s s.heap) (hbl : b < s.heap.size) (hbA : ¬ A b) (hL : L ≤ 2048) (hi : i + 4 ≤ L) (inv : Inv gg X Z ts M) (hrm : kc + 9 ≤ room_1.cells ∧ ks + 434 ≤ room_1.slots) (next : ∀ (gg : Nat → Option Nat) (X Y Z : Ob) (ts : List TD) (M : Ob) (fo : Nat → Int64), Inv gg X Z ts M → XW E p l e room_1 s m args below meth c Zp A (kc + 9) (ks + 434) (LW E cL o q u ad bd cd om am ol gg X Y Z ts M fo) 724 7 [(4, .int (nI i)), (3, .ref ol), (2, .ref om), (1, .ref o), (0, .ref b)] []) : XW E p l e room_1 s m args below meth c Zp A kc ks (LW E cL o q u ad bd cd om am ol gg X Y Z ts M fo) 588 7 [(4, .int (nI i)), (3, .ref ol), (2, .ref om), (1, .ref o), (0, .ref b)] [] := by
  refine xw_aload_n C dL_law_588 rfl 3 rfl ?_
  refine xs_arg C hX hbl hbA hL 1 (by decide) (by omega) 0 4 rfl rfl dL_law_589 dL_law_590 dL_law_592 dL_law_593 dL_law_594 ?_
  refine lx_sweep C inv (xs (i + 1)) (Nat.le_of_ble_eq_true rfl) hrm dL_law_595 (fun v gg' X' Y' Z' ts' M' hr inv' => ?_)
  refine xw_aload_n C dL_law_598 rfl 2 rfl ?_
  refine xs_arg C hX hbl hbA hL 1 (by decide) (by omega) 0 4 rfl rfl dL_law_599 dL_law_600 dL_law_602 dL_law_603 dL_law_604 ?_
  refine xl_ref C (ok_X6_sweep (r := (v, M')) hr) 1 gL_law_X6_sweep rfl ⟨rfl, rfl⟩ (by decide +kernel) ⟨Nat.le_of_ble_eq_true rfl, Nat.le_of_ble_eq_true rfl⟩ rfl (Nat.le_of_ble_eq_true rfl) hrm rfl dL_law_605 ?_
  exact xw_icmp_eq C 724 dL_law_608 (by decide) (fun _ => next gg' X' Y' Z' ts' M' fo inv') (fun w9 => absurd rfl w9)
set_option maxHeartbeats 4000000 in
set_option maxRecDepth 100000 in
theorem lw_c12 (C : Cx E p s m args meth c A cL_law 7 wsL_law RL) (hsl : l.stackTraces = false) (hTh : thr A s) (hKL : va_K E.1 vwCl [(cL, .long)] s) (hX : va_X b L xs s s.heap) (hbl : b < s.heap.size) (hbA : ¬ A b) (hL : L ≤ 2048) (hi : i + 4 ≤ L) (inv : Inv gg X Z ts M) (hrm : kc + 9 ≤ room_1.cells ∧ ks + 434 ≤ room_1.slots) (next : ∀ (gg : Nat → Option Nat) (X Y Z : Ob) (ts : List TD) (M : Ob) (fo : Nat → Int64), Inv gg X Z ts M → XW E p l e room_1 s m args below meth c Zp A (kc + 9) (ks + 434) (LW E cL o q u ad bd cd om am ol gg X Y Z ts M fo) 724 7 [(4, .int (nI i)), (3, .ref ol), (2, .ref om), (1, .ref o), (0, .ref b)] []) : XW E p l e room_1 s m args below meth c Zp A kc ks (LW E cL o q u ad bd cd om am ol gg X Y Z ts M fo) 613 7 [(4, .int (nI i)), (3, .ref ol), (2, .ref om), (1, .ref o), (0, .ref b)] [] := by
  refine xw_aload_n C dL_law_613 rfl 3 rfl ?_
  refine xs_arg C hX hbl hbA hL 1 (by decide) (by omega) 0 4 rfl rfl dL_law_614 dL_law_615 dL_law_617 dL_law_618 dL_law_619 ?_
  refine xs_arg C hX hbl hbA hL 2 (by decide) (by omega) 0 4 rfl rfl dL_law_620 dL_law_621 dL_law_623 dL_law_624 dL_law_625 ?_
  refine xs_arg C hX hbl hbA hL 3 (by decide) (by omega) 0 4 rfl rfl dL_law_626 dL_law_627 dL_law_629 dL_law_630 dL_law_631 ?_
  refine lx_pages C inv (xs (i + 1)) (xs (i + 2)) (xs (i + 3)) (Nat.le_of_ble_eq_true rfl) hrm dL_law_632 (fun v gg' X' Y' Z' ts' M' hr inv' => ?_)
  refine xw_aload_n C dL_law_635 rfl 2 rfl ?_
  refine xs_arg C hX hbl hbA hL 1 (by decide) (by omega) 0 4 rfl rfl dL_law_636 dL_law_637 dL_law_639 dL_law_640 dL_law_641 ?_
  refine xs_arg C hX hbl hbA hL 2 (by decide) (by omega) 0 4 rfl rfl dL_law_642 dL_law_643 dL_law_645 dL_law_646 dL_law_647 ?_
  refine xs_arg C hX hbl hbA hL 3 (by decide) (by omega) 0 4 rfl rfl dL_law_648 dL_law_649 dL_law_651 dL_law_652 dL_law_653 ?_
  refine xl_ref C (ok_X6_pages (r := (v, M')) hr) 3 gL_law_X6_pages rfl ⟨rfl, rfl⟩ (by decide +kernel) ⟨Nat.le_of_ble_eq_true rfl, Nat.le_of_ble_eq_true rfl⟩ rfl (Nat.le_of_ble_eq_true rfl) hrm rfl dL_law_654 ?_
  exact xw_icmp_eq C 724 dL_law_657 (by decide) (fun _ => next gg' X' Y' Z' ts' M' fo inv') (fun w9 => absurd rfl w9)
set_option maxHeartbeats 4000000 in
set_option maxRecDepth 100000 in
theorem lw_c13 (C : Cx E p s m args meth c A cL_law 7 wsL_law RL) (hsl : l.stackTraces = false) (hTh : thr A s) (hKL : va_K E.1 vwCl [(cL, .long)] s) (hX : va_X b L xs s s.heap) (hbl : b < s.heap.size) (hbA : ¬ A b) (hL : L ≤ 2048) (hi : i + 4 ≤ L) (inv : Inv gg X Z ts M) (hrm : kc + 9 ≤ room_1.cells ∧ ks + 434 ≤ room_1.slots) (next : ∀ (gg : Nat → Option Nat) (X Y Z : Ob) (ts : List TD) (M : Ob) (fo : Nat → Int64), Inv gg X Z ts M → XW E p l e room_1 s m args below meth c Zp A (kc + 9) (ks + 434) (LW E cL o q u ad bd cd om am ol gg X Y Z ts M fo) 724 7 [(4, .int (nI i)), (3, .ref ol), (2, .ref om), (1, .ref o), (0, .ref b)] []) : XW E p l e room_1 s m args below meth c Zp A kc ks (LW E cL o q u ad bd cd om am ol gg X Y Z ts M fo) 662 7 [(4, .int (nI i)), (3, .ref ol), (2, .ref om), (1, .ref o), (0, .ref b)] [] := by
  refine xw_aload_n C dL_law_662 rfl 3 rfl ?_
  refine xs_arg C hX hbl hbA hL 1 (by decide) (by omega) 0 4 rfl rfl dL_law_663 dL_law_664 dL_law_666 dL_law_667 dL_law_668 ?_
  refine lx_keep C inv (xs (i + 1)) (Nat.le_of_ble_eq_true rfl) hrm dL_law_669 (fun v gg' X' Y' Z' ts' M' hr inv' => ?_)
  refine xw_aload_n C dL_law_672 rfl 2 rfl ?_
  refine xs_arg C hX hbl hbA hL 1 (by decide) (by omega) 0 4 rfl rfl dL_law_673 dL_law_674 dL_law_676 dL_law_677 dL_law_678 ?_
  refine xl_ref C (ok_X6_keep (r := (v, M')) hr) 1 gL_law_X6_keep rfl ⟨rfl, rfl⟩ (by decide +kernel) ⟨Nat.le_of_ble_eq_true rfl, Nat.le_of_ble_eq_true rfl⟩ rfl (Nat.le_of_ble_eq_true rfl) hrm rfl dL_law_679 ?_
  exact xw_icmp_eq C 724 dL_law_682 (by decide) (fun _ => next gg' X' Y' Z' ts' M' fo inv') (fun w9 => absurd rfl w9)
set_option maxHeartbeats 4000000 in
set_option maxRecDepth 100000 in
theorem lw_c14 (C : Cx E p s m args meth c A cL_law 7 wsL_law RL) (hsl : l.stackTraces = false) (hTh : thr A s) (hKL : va_K E.1 vwCl [(cL, .long)] s) (hX : va_X b L xs s s.heap) (hbl : b < s.heap.size) (hbA : ¬ A b) (hL : L ≤ 2048) (hi : i + 4 ≤ L) (inv : Inv gg X Z ts M) (hrm : kc + 9 ≤ room_1.cells ∧ ks + 434 ≤ room_1.slots) (next : ∀ (gg : Nat → Option Nat) (X Y Z : Ob) (ts : List TD) (M : Ob) (fo : Nat → Int64), Inv gg X Z ts M → XW E p l e room_1 s m args below meth c Zp A (kc + 9) (ks + 434) (LW E cL o q u ad bd cd om am ol gg X Y Z ts M fo) 724 7 [(4, .int (nI i)), (3, .ref ol), (2, .ref om), (1, .ref o), (0, .ref b)] []) : XW E p l e room_1 s m args below meth c Zp A kc ks (LW E cL o q u ad bd cd om am ol gg X Y Z ts M fo) 687 7 [(4, .int (nI i)), (3, .ref ol), (2, .ref om), (1, .ref o), (0, .ref b)] [] := by
  refine xw_aload_n C dL_law_687 rfl 3 rfl ?_
  refine xs_arg C hX hbl hbA hL 1 (by decide) (by omega) 0 4 rfl rfl dL_law_688 dL_law_689 dL_law_691 dL_law_692 dL_law_693 ?_
  refine xs_arg C hX hbl hbA hL 2 (by decide) (by omega) 0 4 rfl rfl dL_law_694 dL_law_695 dL_law_697 dL_law_698 dL_law_699 ?_
  refine lx_kept C inv (xs (i + 1)) (xs (i + 2)) (Nat.le_of_ble_eq_true rfl) hrm dL_law_700 (fun v gg' X' Y' Z' ts' M' hr inv' => ?_)
  refine xw_aload_n C dL_law_703 rfl 2 rfl ?_
  refine xs_arg C hX hbl hbA hL 1 (by decide) (by omega) 0 4 rfl rfl dL_law_704 dL_law_705 dL_law_707 dL_law_708 dL_law_709 ?_
  refine xs_arg C hX hbl hbA hL 2 (by decide) (by omega) 0 4 rfl rfl dL_law_710 dL_law_711 dL_law_713 dL_law_714 dL_law_715 ?_
  refine xl_ref C (ok_X6_kept (r := (v, M')) hr) 2 gL_law_X6_kept rfl ⟨rfl, rfl⟩ (by decide +kernel) ⟨Nat.le_of_ble_eq_true rfl, Nat.le_of_ble_eq_true rfl⟩ rfl (Nat.le_of_ble_eq_true rfl) hrm rfl dL_law_716 ?_
  exact xw_icmp_eq C 724 dL_law_719 (by decide) (fun _ => next gg' X' Y' Z' ts' M' fo inv') (fun w9 => absurd rfl w9)
set_option maxHeartbeats 4000000 in
set_option maxRecDepth 100000 in
theorem lw_body (C : Cx E p s m args meth c A cL_law 7 wsL_law RL) (hsl : l.stackTraces = false) (hTh : thr A s) (hKL : va_K E.1 vwCl [(cL, .long)] s) (hX : va_X b L xs s s.heap) (hbl : b < s.heap.size) (hbA : ¬ A b) (hL : L ≤ 2048) (hi : i + 4 ≤ L) (inv : Inv gg X Z ts M) (hrm : kc + 9 ≤ room_1.cells ∧ ks + 434 ≤ room_1.slots) (next : ∀ (gg : Nat → Option Nat) (X Y Z : Ob) (ts : List TD) (M : Ob) (fo : Nat → Int64), Inv gg X Z ts M → XW E p l e room_1 s m args below meth c Zp A (kc + 9) (ks + 434) (LW E cL o q u ad bd cd om am ol gg X Y Z ts M fo) 724 7 [(4, .int (nI i)), (3, .ref ol), (2, .ref om), (1, .ref o), (0, .ref b)] []) : XW E p l e room_1 s m args below meth c Zp A kc ks (LW E cL o q u ad bd cd om am ol gg X Y Z ts M fo) 32 7 [(4, .int (nI i)), (3, .ref ol), (2, .ref om), (1, .ref o), (0, .ref b)] [] := by
  refine xw_aload_n C dL_law_32 rfl 4 rfl ?_
  refine xw_iload C dL_law_33 0 rfl ?_
  refine xs_ld C hX hbl hbA (vp_in_nI (by omega) (by omega)) dL_law_35 ?_
  refine xw_bipush C 15 dL_law_36 (by decide) ?_
  refine xw_iand C dL_law_38 ?_
  generalize (xs (nI i).toNatClampNeg &&& 15) = y
  by_cases c0 : y = 0
  · exact xw_tabIn (off := 73) C 112 dL_law_39 0 c0 (by decide) (by decide) (by decide) (by decide) (lw_c0 C hsl hTh hKL hX hbl hbA hL hi inv hrm next)
  by_cases c1 : y = 1
  · exact xw_tabIn (off := 98) C 137 dL_law_39 1 c1 (by decide) (by decide) (by decide) (by decide) (lw_c1 C hsl hTh hKL hX hbl hbA hL hi inv hrm next)
  by_cases c2 : y = 2
  · exact xw_tabIn (off := 135) C 174 dL_law_39 2 c2 (by decide) (by decide) (by decide) (by decide) (lw_c2 C hsl hTh hKL hX hbl hbA hL hi inv hrm next)
  by_cases c3 : y = 3
  · exact xw_tabIn (off := 203) C 242 dL_law_39 3 c3 (by decide) (by decide) (by decide) (by decide) (lw_c3 C hsl hTh hKL hX hbl hbA hL hi inv hrm next)
  by_cases c4 : y = 4
  · exact xw_tabIn (off := 271) C 310 dL_law_39 4 c4 (by decide) (by decide) (by decide) (by decide) (lw_c4 C hsl hTh hKL hX hbl hbA hL hi inv hrm next)
  by_cases c5 : y = 5
  · exact xw_tabIn (off := 308) C 347 dL_law_39 5 c5 (by decide) (by decide) (by decide) (by decide) (lw_c5 C hsl hTh hKL hX hbl hbA hL hi inv hrm next)
  by_cases c6 : y = 6
  · exact xw_tabIn (off := 345) C 384 dL_law_39 6 c6 (by decide) (by decide) (by decide) (by decide) (lw_c6 C hsl hTh hKL hX hbl hbA hL hi inv hrm next)
  by_cases c7 : y = 7
  · exact xw_tabIn (off := 370) C 409 dL_law_39 7 c7 (by decide) (by decide) (by decide) (by decide) (lw_c7 C hsl hTh hKL hX hbl hbA hL hi inv hrm next)
  by_cases c8 : y = 8
  · exact xw_tabIn (off := 450) C 489 dL_law_39 8 c8 (by decide) (by decide) (by decide) (by decide) (lw_c8 C hsl hTh hKL hX hbl hbA hL hi inv hrm next)
  by_cases c9 : y = 9
  · exact xw_tabIn (off := 487) C 526 dL_law_39 9 c9 (by decide) (by decide) (by decide) (by decide) (lw_c9 C hsl hTh hKL hX hbl hbA hL hi inv hrm next)
  by_cases c10 : y = 10
  · exact xw_tabIn (off := 524) C 563 dL_law_39 10 c10 (by decide) (by decide) (by decide) (by decide) (lw_c10 C hsl hTh hKL hX hbl hbA hL hi inv hrm next)
  by_cases c11 : y = 11
  · exact xw_tabIn (off := 549) C 588 dL_law_39 11 c11 (by decide) (by decide) (by decide) (by decide) (lw_c11 C hsl hTh hKL hX hbl hbA hL hi inv hrm next)
  by_cases c12 : y = 12
  · exact xw_tabIn (off := 574) C 613 dL_law_39 12 c12 (by decide) (by decide) (by decide) (by decide) (lw_c12 C hsl hTh hKL hX hbl hbA hL hi inv hrm next)
  by_cases c13 : y = 13
  · exact xw_tabIn (off := 623) C 662 dL_law_39 13 c13 (by decide) (by decide) (by decide) (by decide) (lw_c13 C hsl hTh hKL hX hbl hbA hL hi inv hrm next)
  by_cases c14 : y = 14
  · exact xw_tabIn (off := 648) C 687 dL_law_39 14 c14 (by decide) (by decide) (by decide) (by decide) (lw_c14 C hsl hTh hKL hX hbl hbA hL hi inv hrm next)
  refine xw_tabOut C 724 dL_law_39 (by have t0 := xt_ne (k := 0) c0 (by decide); have t1 := xt_ne (k := 1) c1 (by decide); have t2 := xt_ne (k := 2) c2 (by decide); have t3 := xt_ne (k := 3) c3 (by decide); have t4 := xt_ne (k := 4) c4 (by decide); have t5 := xt_ne (k := 5) c5 (by decide); have t6 := xt_ne (k := 6) c6 (by decide); have t7 := xt_ne (k := 7) c7 (by decide); have t8 := xt_ne (k := 8) c8 (by decide); have t9 := xt_ne (k := 9) c9 (by decide); have t10 := xt_ne (k := 10) c10 (by decide); have t11 := xt_ne (k := 11) c11 (by decide); have t12 := xt_ne (k := 12) c12 (by decide); have t13 := xt_ne (k := 13) c13 (by decide); have t14 := xt_ne (k := 14) c14 (by decide); omega) (by decide) ?_
  exact xw_widen (kc + 9) (ks + 434) (by omega) (by omega) (next gg X Y Z ts M fo inv)
set_option maxHeartbeats 4000000 in
set_option maxRecDepth 100000 in
theorem lw_loop (C : Cx E p s m args meth c A cL_law 7 wsL_law RL) (hsl : l.stackTraces = false) (hTh : thr A s) (hKL : va_K E.1 vwCl [(cL, .long)] s) (hX : va_X b L xs s s.heap) (hbl : b < s.heap.size) (hbA : ¬ A b) (hL : L ≤ 2048) (fin : ∀ (kc ks : Nat) (w : va_W) (lv : List (Nat × Value)), kc ≤ 601024 → ks ≤ 7293034 → XW E p l e room_1 s m args below meth c Zp A kc ks w 731 7 lv [.int 1]) : ∀ (n i kc ks : Nat) (gg : Nat → Option Nat) (X Y Z : Ob) (ts : List TD) (M : Ob) (fo : Nat → Int64), Inv gg X Z ts M → L ≤ i + 4 * n → i ≤ L → kc + 9 * n ≤ 601024 → ks + 434 * n ≤ 7293034 → XW E p l e room_1 s m args below meth c Zp A kc ks (LW E cL o q u ad bd cd om am ol gg X Y Z ts M fo) 23 7 [(4, .int (nI i)), (3, .ref ol), (2, .ref om), (1, .ref o), (0, .ref b)] [] := by
  have cmp : ∀ i : Nat, i ≤ L → (nI L - nI 4 < nI i ↔ L < i + 4) := by
    intro i hi
    rw [Int32.lt_iff_toInt_lt, pk_sub_toInt (by omega) (by omega), nI_toInt (by omega)]
    omega
  intro n
  induction n with
  | zero =>
    intro i kc ks gg X Y Z ts M fo inv h1 h2 h3 h4
    refine xw_iload C dL_law_23 0 rfl ?_
    refine xw_aload_n C dL_law_25 rfl 4 rfl ?_
    refine xs_len C hX hbl hbA dL_law_26 ?_
    refine xw_iconst C (nI 4) dL_law_27 (by decide) ?_
    refine xw_isub C dL_law_28 ?_
    refine xw_icmp_gt C 730 dL_law_29 (by decide) (fun _ => ?_) (fun w9 => absurd ((cmp i h2).mpr (by omega)) w9)
    refine xw_iconst C 1 dL_law_730 (by decide) ?_
    exact fin _ _ _ _ (by omega) (by omega)
  | succ n ih =>
    intro i kc ks gg X Y Z ts M fo inv h1 h2 h3 h4
    refine xw_iload C dL_law_23 0 rfl ?_
    refine xw_aload_n C dL_law_25 rfl 4 rfl ?_
    refine xs_len C hX hbl hbA dL_law_26 ?_
    refine xw_iconst C (nI 4) dL_law_27 (by decide) ?_
    refine xw_isub C dL_law_28 ?_
    refine xw_icmp_gt C 730 dL_law_29 (by decide) (fun _ => ?_) (fun w9 => ?_)
    · refine xw_iconst C 1 dL_law_730 (by decide) ?_
      exact fin _ _ _ _ (by omega) (by omega)
    · have hi : i + 4 ≤ L := by
        have := mt (cmp i h2).mpr w9
        omega
      refine lw_body C hsl hTh hKL hX hbl hbA hL hi inv ⟨(show kc + 9 ≤ 601024 by omega), (show ks + 434 ≤ 7293034 by omega)⟩ (fun gg' X' Y' Z' ts' M' fo' inv' => ?_)
      refine xw_iinc C dL_law_724 0 rfl (v := nI (i + 4)) (nI_add i 4).symm (by decide) (lv' := [(4, .int (nI (i + 4))), (3, .ref ol), (2, .ref om), (1, .ref o), (0, .ref b)]) rfl ?_
      refine xw_goto C 23 dL_law_727 (by decide) ?_
      exact ih (i + 4) (kc + 9) (ks + 434) gg' X' Y' Z' ts' M' fo' inv' (by omega) (by omega) (by omega) (by omega)
end LL
