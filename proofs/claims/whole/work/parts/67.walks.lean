set_option maxHeartbeats 4000000 in
set_option maxRecDepth 100000 in
theorem w_X7_share_291 {p : Program} {l : Launch} {e : Env} {s : State} {m : MethodId} {args : Array Value} {below : List Frame} {meth : Method} {c : Code} (C : Cx p s m args meth c cX7_share none 17 RX7) {G : GX} {Sh : SH} {a0 : Nat} {p1 : Int32} {B202 : Int32 → Int32 → Int64 → Int64 → Int64 → Int32 → MI → ML → Prop} {K : MI → ML → Prop} (h0 : isModel G Sh a0) (hB202 : ∀ (xl2 : Int32) (xl5 : Int32) (yl6 : Int64) (yl10 : Int64) (yl12 : Int64) (xl14 : Int32) (I : MI) (L : ML) (H : Heap) (locs : List Loc) (ls : Array Slot), B202 xl2 xl5 yl6 yl10 yl12 xl14 I L → mW G Sh s I L H locs → lv_has ls 17 [(0, .ref a0), (1, .int p1), (2, .int xl2), (5, .int xl5), (6, .long yl6), (10, .long yl10), (12, .long yl12), (14, .int xl14)] → W p l e (rmA 4 97) s m args below meth c H locs 0 0 (eV below G Sh K args s) (F0 m 202 ls [])) : ∀ (xl2 : Int32) (xl5 : Int32) (yl6 : Int64) (yl10 : Int64) (yl12 : Int64) (xl14 : Int32) (ys0 : Int64) (xs1 : Int32) (I : MI) (L : ML) (H : Heap) (locs : List Loc) (ls : Array Slot), wp_X7_share_291 G Sh a0 p1 B202 K xl2 xl5 yl6 yl10 yl12 xl14 ys0 xs1 I L → mW G Sh s I L H locs → lv_has ls 17 [(0, .ref a0), (1, .int p1), (2, .int xl2), (5, .int xl5), (6, .long yl6), (10, .long yl10), (12, .long yl12), (14, .int xl14)] → W p l e (rmA 4 97) s m args below meth c H locs 0 0 (eV below G Sh K args s) (F0 m 291 ls [.long ys0, .int xs1, .ref (a0 + 28)]) := by
  obtain ⟨hx, hb, hr, hml, hown, hts, hlocks⟩ := id C
  intro xl2 xl5 yl6 yl10 yl12 xl14 ys0 xs1 I L H locs ls hp hw hl
  unfold wp_X7_share_291 at hp
  obtain ⟨hi_51, hp⟩ := hp
  refine r_last hx hb hw (h0.2.2.2.2.2.2.2.2.2.2.2.2.2.2.2.2.2.2.2.2.2.2.2.2.2.2.2.2.1) hi_51 dX7_share_291 (fun L_52 H locs eL_52 hw => ?_)
  replace hp := hp L_52 eL_52
  refine lv_lload hx hb dX7_share_292 (lv_at hl 6 rfl) ?_
  refine lv_aload_n hx hb dX7_share_294 rfl (lv_at hl 0 rfl) ?_
  refine gf_X7_86 hx hb hts hown hw (h0.1) dX7_share_295 ?_
  refine lv_bipush (v := 24) hx hb dX7_share_298 (by decide) ?_
  refine lv_iload_n hx hb dX7_share_300 rfl (lv_at hl 1 rfl) ?_
  refine lv_imul hx hb dX7_share_301 ?_
  refine lv_iload hx hb dX7_share_302 (lv_at hl 7 rfl) ?_
  refine lv_iadd hx hb dX7_share_304 ?_
  refine lv_topi (fun x_53 ex_53 => ?_)
  replace hp := hp x_53 ex_53
  obtain ⟨hi_54, hp⟩ := hp
  refine r_iald hx hb hw (h0.2.2.2.2.2.2.2.2.2.2.2.2.2.2.2.2.2.2.2.2.2.2.2.2.2.2.1) hi_54 dX7_share_305 ?_
  refine lv_i2l hx hb dX7_share_306 rfl ?_
  refine lv_ladd hx hb dX7_share_307 ?_
  refine lv_topl (fun y_55 ey_55 => ?_)
  replace hp := hp y_55 ey_55
  refine lv_lstore (lv' := [(12, .long y_55), (0, .ref a0), (1, .int p1), (2, .int xl2), (5, .int xl5), (6, .long yl6), (10, .long yl10), (14, .int xl14)]) hx hb dX7_share_308 hl (by decide) rfl (fun ls hl => ?_)
  obtain ⟨x_56, ex_56⟩ : ∃ z : Int32, z = xl14 + (1 : Int32) := ⟨_, rfl⟩
  replace hp := hp x_56 ex_56
  refine lv_iinc (v := x_56) (lv' := [(14, .int x_56), (12, .long y_55), (0, .ref a0), (1, .int p1), (2, .int xl2), (5, .int xl5), (6, .long yl6), (10, .long yl10)]) hx hb dX7_share_310 hl (k := 7) rfl (by rw [ex_56]; rfl) (by decide) rfl (fun ls hl => ?_)
  refine lv_goto (tgt := 202) hx hb dX7_share_313 (by decide) ?_
  exact hB202 (xl2) (xl5) (yl6) (yl10) (y_55) (x_56) _ _ _ _ _ hp hw (lv_sub hl [2, 3, 4, 5, 6, 7, 1, 0] rfl)
set_option maxHeartbeats 4000000 in
set_option maxRecDepth 100000 in
theorem w_X7_share_242 {p : Program} {l : Launch} {e : Env} {s : State} {m : MethodId} {args : Array Value} {below : List Frame} {meth : Method} {c : Code} (C : Cx p s m args meth c cX7_share none 17 RX7) {G : GX} {Sh : SH} {a0 : Nat} {p1 : Int32} {B202 : Int32 → Int32 → Int64 → Int64 → Int64 → Int32 → MI → ML → Prop} {K : MI → ML → Prop} (h0 : isModel G Sh a0) (hB202 : ∀ (xl2 : Int32) (xl5 : Int32) (yl6 : Int64) (yl10 : Int64) (yl12 : Int64) (xl14 : Int32) (I : MI) (L : ML) (H : Heap) (locs : List Loc) (ls : Array Slot), B202 xl2 xl5 yl6 yl10 yl12 xl14 I L → mW G Sh s I L H locs → lv_has ls 17 [(0, .ref a0), (1, .int p1), (2, .int xl2), (5, .int xl5), (6, .long yl6), (10, .long yl10), (12, .long yl12), (14, .int xl14)] → W p l e (rmA 4 97) s m args below meth c H locs 0 0 (eV below G Sh K args s) (F0 m 202 ls [])) : ∀ (xl2 : Int32) (xl5 : Int32) (yl6 : Int64) (yl10 : Int64) (yl12 : Int64) (xl14 : Int32) (ys0 : Int64) (I : MI) (L : ML) (H : Heap) (locs : List Loc) (ls : Array Slot), wp_X7_share_242 G Sh a0 p1 B202 K xl2 xl5 yl6 yl10 yl12 xl14 ys0 I L → mW G Sh s I L H locs → lv_has ls 17 [(0, .ref a0), (1, .int p1), (2, .int xl2), (5, .int xl5), (6, .long yl6), (10, .long yl10), (12, .long yl12), (14, .int xl14)] → W p l e (rmA 4 97) s m args below meth c H locs 0 0 (eV below G Sh K args s) (F0 m 242 ls [.long ys0]) := by
  obtain ⟨hx, hb, hr, hml, hown, hts, hlocks⟩ := id C
  intro xl2 xl5 yl6 yl10 yl12 xl14 ys0 I L H locs ls hp hw hl
  unfold wp_X7_share_242 at hp
  refine lv_lstore (lv' := [(15, .long ys0), (0, .ref a0), (1, .int p1), (2, .int xl2), (5, .int xl5), (6, .long yl6), (10, .long yl10), (12, .long yl12), (14, .int xl14)]) hx hb dX7_share_242 hl (by decide) rfl (fun ls hl => ?_)
  refine lv_lload hx hb dX7_share_244 (lv_at hl 7 rfl) ?_
  refine lv_aload_n hx hb dX7_share_246 rfl (lv_at hl 1 rfl) ?_
  refine lv_iload_n hx hb dX7_share_247 rfl (lv_at hl 2 rfl) ?_
  refine lv_iload hx hb dX7_share_248 (lv_at hl 8 rfl) ?_
  refine r_cvL (As := [.int p1, .int xl14]) ⟨hx, hb, hml, hown, hts⟩ (c_X7_widthOfGlue l G (h0) hp) (cw_X7_206 hts ⟨Nat.le_of_ble_eq_true rfl, Nat.le_of_ble_eq_true rfl⟩) hw (hw.recv (h0.1) rfl rfl) rfl rfl hl.1 (Nat.le_of_ble_eq_true rfl) ⟨Nat.zero_le _, Nat.zero_le _⟩ dX7_share_250 (fun r_44 I_45 L_46 H locs hp hw => ?_)
  refine lv_ladd hx hb dX7_share_253 ?_
  refine lv_topl (fun y_47 ey_47 => ?_)
  replace hp := hp y_47 ey_47
  refine lv_lstore (lv' := [(12, .long y_47), (15, .long ys0), (0, .ref a0), (1, .int p1), (2, .int xl2), (5, .int xl5), (6, .long yl6), (10, .long yl10), (14, .int xl14)]) hx hb dX7_share_254 hl (by decide) rfl (fun ls hl => ?_)
  refine lv_iload hx hb dX7_share_256 (lv_at hl 8 rfl) ?_
  refine lv_iload_n hx hb dX7_share_258 rfl (lv_at hl 4 rfl) ?_
  refine lv_icmp_ge (tgt := 310) hx hb dX7_share_259 (by decide) (fun hc_48 => ?_) (fun hc_48 => ?_)
  · replace hp := hp.1 hc_48
    obtain ⟨x_49, ex_49⟩ : ∃ z : Int32, z = xl14 + (1 : Int32) := ⟨_, rfl⟩
    replace hp := hp x_49 ex_49
    refine lv_iinc (v := x_49) (lv' := [(14, .int x_49), (12, .long y_47), (15, .long ys0), (0, .ref a0), (1, .int p1), (2, .int xl2), (5, .int xl5), (6, .long yl6), (10, .long yl10)]) hx hb dX7_share_310 hl (k := 8) rfl (by rw [ex_49]; rfl) (by decide) rfl (fun ls hl => ?_)
    refine lv_goto (tgt := 202) hx hb dX7_share_313 (by decide) ?_
    exact hB202 (xl2) (xl5) (yl6) (yl10) (y_47) (x_49) _ _ _ _ _ hp hw (lv_sub hl [3, 4, 5, 6, 7, 8, 1, 0] rfl)
  · replace hp := hp.2 hc_48
    refine lv_aload_n hx hb dX7_share_262 rfl (lv_at hl 2 rfl) ?_
    refine gf_X7_92 hx hb hts hown hw (h0.1) dX7_share_263 ?_
    refine lv_bipush (v := 24) hx hb dX7_share_266 (by decide) ?_
    refine lv_iload_n hx hb dX7_share_268 rfl (lv_at hl 3 rfl) ?_
    refine lv_imul hx hb dX7_share_269 ?_
    refine lv_iload hx hb dX7_share_270 (lv_at hl 8 rfl) ?_
    refine lv_iadd hx hb dX7_share_272 ?_
    refine lv_iload hx hb dX7_share_273 (lv_at hl 5 rfl) ?_
    refine lv_if_eq (tgt := 286) hx hb dX7_share_275 (by decide) (fun hc_50 => ?_) (fun hc_50 => ?_)
    · replace hp := hp.1 hc_50
      refine lv_lload hx hb dX7_share_286 (lv_at hl 0 rfl) ?_
      refine lv_lload hx hb dX7_share_288 (lv_at hl 1 rfl) ?_
      refine lv_lsub hx hb dX7_share_290 ?_
      exact w_X7_share_291 C h0 hB202 (xl2) (xl5) (yl6) (yl10) (y_47) (xl14) ((y_47 - ys0)) ((((24 : Int32) * p1) + xl14)) _ _ _ _ _ hp hw (lv_sub hl [2, 3, 4, 5, 6, 7, 0, 8] rfl)
    · replace hp := hp.2 hc_50
      refine lv_lload hx hb dX7_share_278 (lv_at hl 0 rfl) ?_
      refine lv_lload hx hb dX7_share_280 (lv_at hl 1 rfl) ?_
      refine lv_ladd hx hb dX7_share_282 ?_
      refine lv_goto (tgt := 291) hx hb dX7_share_283 (by decide) ?_
      exact w_X7_share_291 C h0 hB202 (xl2) (xl5) (yl6) (yl10) (y_47) (xl14) ((y_47 + ys0)) ((((24 : Int32) * p1) + xl14)) _ _ _ _ _ hp hw (lv_sub hl [2, 3, 4, 5, 6, 7, 0, 8] rfl)
set_option maxHeartbeats 4000000 in
set_option maxRecDepth 100000 in
theorem w_X7_share_202 {p : Program} {l : Launch} {e : Env} {s : State} {m : MethodId} {args : Array Value} {below : List Frame} {meth : Method} {c : Code} (C : Cx p s m args meth c cX7_share none 17 RX7) {G : GX} {Sh : SH} {a0 : Nat} {p1 : Int32} {K : MI → ML → Prop} (h0 : isModel G Sh a0) : ∀ (n : Nat) (xl2 : Int32) (xl5 : Int32) (yl6 : Int64) (yl10 : Int64) (yl12 : Int64) (xl14 : Int32) (I : MI) (L : ML) (H : Heap) (locs : List Loc) (ls : Array Slot), wp_X7_share_202 G Sh a0 p1 K n xl2 xl5 yl6 yl10 yl12 xl14 I L → mW G Sh s I L H locs → lv_has ls 17 [(0, .ref a0), (1, .int p1), (2, .int xl2), (5, .int xl5), (6, .long yl6), (10, .long yl10), (12, .long yl12), (14, .int xl14)] → W p l e (rmA 4 97) s m args below meth c H locs 0 0 (eV below G Sh K args s) (F0 m 202 ls []) := by
  obtain ⟨hx, hb, hr, hml, hown, hts, hlocks⟩ := id C
  intro n
  induction n with
  | zero => intro xl2 xl5 yl6 yl10 yl12 xl14 I L H locs ls hp hw hl; exact hp.elim
  | succ n hB202 =>
    intro xl2 xl5 yl6 yl10 yl12 xl14 I L H locs ls hp hw hl
    replace hp : wb_X7_share_202 G Sh a0 p1 K (wp_X7_share_202 G Sh a0 p1 K n) xl2 xl5 yl6 yl10 yl12 xl14 I L := hp
    unfold wb_X7_share_202 at hp
    refine lv_iload hx hb dX7_share_202 (lv_at hl 7 rfl) ?_
    refine lv_iload_n hx hb dX7_share_204 rfl (lv_at hl 2 rfl) ?_
    refine lv_icmp_gt (tgt := 316) hx hb dX7_share_205 (by decide) (fun hc_37 => ?_) (fun hc_37 => ?_)
    · replace hp := hp.1 hc_37
      exact r_vret hx hb hr hlocks hw hp dX7_share_316
    · replace hp := hp.2 hc_37
      refine lv_lload hx hb dX7_share_208 (lv_at hl 4 rfl) ?_
      refine lv_lconst (v := 0) hx hb dX7_share_210 (by decide) ?_
      refine W.lcmp hx hb dX7_share_211 ?_
      refine lv_if_ne (tgt := 219) hx hb dX7_share_212 (by decide) (fun hc_38 => ?_) (fun hc_38 => ?_)
      · replace hp := hp.2 hc_38
        refine lv_lload hx hb dX7_share_219 (lv_at hl 5 rfl) ?_
        refine lv_aload_n hx hb dX7_share_221 rfl (lv_at hl 0 rfl) ?_
        refine lv_iload_n hx hb dX7_share_222 rfl (lv_at hl 1 rfl) ?_
        refine lv_iload hx hb dX7_share_223 (lv_at hl 7 rfl) ?_
        refine lv_iconst (v := 1) hx hb dX7_share_225 (by decide) ?_
        refine lv_iadd hx hb dX7_share_226 ?_
        refine lv_iload hx hb dX7_share_227 (lv_at hl 3 rfl) ?_
        refine lv_aload_n hx hb dX7_share_229 rfl (lv_at hl 0 rfl) ?_
        refine gf_X7_102 hx hb hts hown hw (h0.1) dX7_share_230 ?_
        refine lv_iload_n hx hb dX7_share_233 rfl (lv_at hl 1 rfl) ?_
        obtain ⟨hi_39, hp⟩ := hp
        refine r_iald hx hb hw (h0.2.2.2.2.2.2.2.2.2.2.2.2.2.2.2.2.2.2.2.2.2.2.2.2.2.2.2.2.2.2.2.1) hi_39 dX7_share_234 ?_
        refine r_cvL (As := [.int p1, .int (xl14 + (1 : Int32)), .int xl5, .int (I (a0 + 31) (p1).toNatClampNeg)]) ⟨hx, hb, hml, hown, hts⟩ (c_X7_sumOf l G (h0) hp) (cw_X7_213 hts ⟨Nat.le_of_ble_eq_true rfl, Nat.le_of_ble_eq_true rfl⟩) hw (hw.recv (h0.1) rfl rfl) rfl rfl hl.1 (Nat.le_of_ble_eq_true rfl) ⟨Nat.zero_le _, Nat.zero_le _⟩ dX7_share_235 (fun r_40 I_41 L_42 H locs hp hw => ?_)
        refine lv_lmul hx hb dX7_share_238 ?_
        refine lv_lload hx hb dX7_share_239 (lv_at hl 4 rfl) ?_
        obtain ⟨hz_43, hp⟩ := hp
        refine lv_ldiv hx hb dX7_share_241 hz_43 ?_
        exact w_X7_share_242 C h0 hB202 (xl2) (xl5) (yl6) (yl10) (yl12) (xl14) (((yl10 * r_40) / yl6)) _ _ _ _ _ hp hw (lv_sub hl [0, 1, 2, 3, 4, 5, 6, 7] rfl)
      · replace hp := hp.1 hc_38
        refine lv_lconst (v := 0) hx hb dX7_share_215 (by decide) ?_
        refine lv_goto (tgt := 242) hx hb dX7_share_216 (by decide) ?_
        exact w_X7_share_242 C h0 hB202 (xl2) (xl5) (yl6) (yl10) (yl12) (xl14) ((0 : Int64)) _ _ _ _ _ hp hw (lv_sub hl [0, 1, 2, 3, 4, 5, 6, 7] rfl)
set_option maxHeartbeats 4000000 in
set_option maxRecDepth 100000 in
theorem w_X7_share_183 {p : Program} {l : Launch} {e : Env} {s : State} {m : MethodId} {args : Array Value} {below : List Frame} {meth : Method} {c : Code} (C : Cx p s m args meth c cX7_share none 17 RX7) {G : GX} {Sh : SH} {a0 : Nat} {p1 : Int32} {K : MI → ML → Prop} (h0 : isModel G Sh a0) : ∀ (xl2 : Int32) (xl5 : Int32) (yl6 : Int64) (yl8 : Int64) (ys0 : Int64) (I : MI) (L : ML) (H : Heap) (locs : List Loc) (ls : Array Slot), wp_X7_share_183 G Sh a0 p1 K xl2 xl5 yl6 yl8 ys0 I L → mW G Sh s I L H locs → lv_has ls 17 [(0, .ref a0), (1, .int p1), (2, .int xl2), (5, .int xl5), (6, .long yl6), (8, .long yl8)] → W p l e (rmA 4 97) s m args below meth c H locs 0 0 (eV below G Sh K args s) (F0 m 183 ls [.long ys0]) := by
  obtain ⟨hx, hb, hr, hml, hown, hts, hlocks⟩ := id C
  intro xl2 xl5 yl6 yl8 ys0 I L H locs ls hp hw hl
  unfold wp_X7_share_183 at hp
  refine lv_lstore (lv' := [(10, .long ys0), (0, .ref a0), (1, .int p1), (2, .int xl2), (5, .int xl5), (6, .long yl6), (8, .long yl8)]) hx hb dX7_share_183 hl (by decide) rfl (fun ls hl => ?_)
  refine lv_aload_n hx hb dX7_share_185 rfl (lv_at hl 1 rfl) ?_
  refine gf_X7_105 hx hb hts hown hw (h0.1) dX7_share_186 ?_
  refine lv_iload_n hx hb dX7_share_189 rfl (lv_at hl 2 rfl) ?_
  refine lv_lload hx hb dX7_share_190 (lv_at hl 6 rfl) ?_
  refine lv_lload hx hb dX7_share_192 (lv_at hl 0 rfl) ?_
  refine lv_lsub hx hb dX7_share_194 ?_
  obtain ⟨hi_35, hp⟩ := hp
  refine r_last hx hb hw (h0.2.2.2.2.2.2.2.2.2.2.2.2.2.2.2.2.2.2.2.2.2.2.2.2.2.2.2.2.2.2.2.2.1) hi_35 dX7_share_195 (fun L_36 H locs eL_36 hw => ?_)
  replace hp := hp L_36 eL_36
  refine lv_lconst (v := 0) hx hb dX7_share_196 (by decide) ?_
  refine lv_lstore (lv' := [(12, .long (0 : Int64)), (10, .long ys0), (0, .ref a0), (1, .int p1), (2, .int xl2), (5, .int xl5), (6, .long yl6), (8, .long yl8)]) hx hb dX7_share_197 hl (by decide) rfl (fun ls hl => ?_)
  refine lv_iconst (v := 0) hx hb dX7_share_199 (by decide) ?_
  refine lv_istore (lv' := [(14, .int (0 : Int32)), (12, .long (0 : Int64)), (10, .long ys0), (0, .ref a0), (1, .int p1), (2, .int xl2), (5, .int xl5), (6, .long yl6), (8, .long yl8)]) hx hb dX7_share_200 hl (by decide) rfl (fun ls hl => ?_)
  obtain ⟨n, hp⟩ := hp
  exact w_X7_share_202 C h0 n (xl2) (xl5) (yl6) (ys0) ((0 : Int64)) ((0 : Int32)) _ _ _ _ _ hp hw (lv_sub hl [3, 4, 5, 6, 7, 2, 1, 0] rfl)
set_option maxHeartbeats 4000000 in
set_option maxRecDepth 100000 in
theorem w_X7_share_181 {p : Program} {l : Launch} {e : Env} {s : State} {m : MethodId} {args : Array Value} {below : List Frame} {meth : Method} {c : Code} (C : Cx p s m args meth c cX7_share none 17 RX7) {G : GX} {Sh : SH} {a0 : Nat} {p1 : Int32} {K : MI → ML → Prop} (h0 : isModel G Sh a0) : ∀ (xl2 : Int32) (xl5 : Int32) (yl6 : Int64) (yl8 : Int64) (I : MI) (L : ML) (H : Heap) (locs : List Loc) (ls : Array Slot), wp_X7_share_181 G Sh a0 p1 K xl2 xl5 yl6 yl8 I L → mW G Sh s I L H locs → lv_has ls 17 [(0, .ref a0), (1, .int p1), (2, .int xl2), (5, .int xl5), (6, .long yl6), (8, .long yl8)] → W p l e (rmA 4 97) s m args below meth c H locs 0 0 (eV below G Sh K args s) (F0 m 181 ls []) := by
  obtain ⟨hx, hb, hr, hml, hown, hts, hlocks⟩ := id C
  intro xl2 xl5 yl6 yl8 I L H locs ls hp hw hl
  unfold wp_X7_share_181 at hp
  refine lv_lload hx hb dX7_share_181 (lv_at hl 5 rfl) ?_
  exact w_X7_share_183 C h0 (xl2) (xl5) (yl6) (yl8) (yl8) _ _ _ _ _ hp hw (lv_sub hl [0, 1, 2, 3, 4, 5] rfl)
set_option maxHeartbeats 4000000 in
set_option maxRecDepth 100000 in
theorem w_X7_share_139 {p : Program} {l : Launch} {e : Env} {s : State} {m : MethodId} {args : Array Value} {below : List Frame} {meth : Method} {c : Code} (C : Cx p s m args meth c cX7_share none 17 RX7) {G : GX} {Sh : SH} {a0 : Nat} {p1 : Int32} {K : MI → ML → Prop} (h0 : isModel G Sh a0) : ∀ (xl2 : Int32) (xl5 : Int32) (yl6 : Int64) (ys0 : Int64) (I : MI) (L : ML) (H : Heap) (locs : List Loc) (ls : Array Slot), wp_X7_share_139 G Sh a0 p1 K xl2 xl5 yl6 ys0 I L → mW G Sh s I L H locs → lv_has ls 17 [(0, .ref a0), (1, .int p1), (2, .int xl2), (5, .int xl5), (6, .long yl6)] → W p l e (rmA 4 97) s m args below meth c H locs 0 0 (eV below G Sh K args s) (F0 m 139 ls [.long ys0]) := by
  obtain ⟨hx, hb, hr, hml, hown, hts, hlocks⟩ := id C
  intro xl2 xl5 yl6 ys0 I L H locs ls hp hw hl
  unfold wp_X7_share_139 at hp
  refine lv_lstore (lv' := [(8, .long ys0), (0, .ref a0), (1, .int p1), (2, .int xl2), (5, .int xl5), (6, .long yl6)]) hx hb dX7_share_139 hl (by decide) rfl (fun ls hl => ?_)
  refine lv_aload_n hx hb dX7_share_141 rfl (lv_at hl 1 rfl) ?_
  refine gf_X7_102 hx hb hts hown hw (h0.1) dX7_share_142 ?_
  refine lv_iload_n hx hb dX7_share_145 rfl (lv_at hl 2 rfl) ?_
  obtain ⟨hi_29, hp⟩ := hp
  refine r_iald hx hb hw (h0.2.2.2.2.2.2.2.2.2.2.2.2.2.2.2.2.2.2.2.2.2.2.2.2.2.2.2.2.2.2.2.1) hi_29 dX7_share_146 ?_
  refine lv_if_ge (tgt := 154) hx hb dX7_share_147 (by decide) (fun hc_30 => ?_) (fun hc_30 => ?_)
  · replace hp := hp.1 hc_30
    refine lv_iload hx hb dX7_share_154 (lv_at hl 4 rfl) ?_
    refine lv_if_ne (tgt := 181) hx hb dX7_share_156 (by decide) (fun hc_31 => ?_) (fun hc_31 => ?_)
    · replace hp := hp.2 hc_31
      exact w_X7_share_181 C h0 (xl2) (xl5) (yl6) (ys0) _ _ _ _ _ hp hw (lv_sub hl [1, 2, 3, 4, 5, 0] rfl)
    · replace hp := hp.1 hc_31
      refine lv_aload_n hx hb dX7_share_159 rfl (lv_at hl 1 rfl) ?_
      refine gf_X7_102 hx hb hts hown hw (h0.1) dX7_share_160 ?_
      refine lv_iload_n hx hb dX7_share_163 rfl (lv_at hl 2 rfl) ?_
      obtain ⟨hi_32, hp⟩ := hp
      refine r_iald hx hb hw (h0.2.2.2.2.2.2.2.2.2.2.2.2.2.2.2.2.2.2.2.2.2.2.2.2.2.2.2.2.2.2.2.1) hi_32 dX7_share_164 ?_
      refine lv_if_ne (tgt := 181) hx hb dX7_share_165 (by decide) (fun hc_33 => ?_) (fun hc_33 => ?_)
      · replace hp := hp.2 hc_33
        exact w_X7_share_181 C h0 (xl2) (xl5) (yl6) (ys0) _ _ _ _ _ hp hw (lv_sub hl [1, 2, 3, 4, 5, 0] rfl)
      · replace hp := hp.1 hc_33
        refine lv_lload hx hb dX7_share_168 (lv_at hl 0 rfl) ?_
        refine lv_lload hx hb dX7_share_170 (lv_at hl 5 rfl) ?_
        refine W.lcmp hx hb dX7_share_172 ?_
        refine lv_if_le (tgt := 181) hx hb dX7_share_173 (by decide) (fun hc_34 => ?_) (fun hc_34 => ?_)
        · replace hp := hp.1 hc_34
          exact w_X7_share_181 C h0 (xl2) (xl5) (yl6) (ys0) _ _ _ _ _ hp hw (lv_sub hl [1, 2, 3, 4, 5, 0] rfl)
        · replace hp := hp.2 hc_34
          refine lv_lload hx hb dX7_share_176 (lv_at hl 5 rfl) ?_
          refine lv_goto (tgt := 183) hx hb dX7_share_178 (by decide) ?_
          exact w_X7_share_183 C h0 (xl2) (xl5) (yl6) (ys0) (yl6) _ _ _ _ _ hp hw (lv_sub hl [1, 2, 3, 4, 5, 0] rfl)
  · replace hp := hp.2 hc_30
    refine lv_lconst (v := 0) hx hb dX7_share_150 (by decide) ?_
    refine lv_goto (tgt := 183) hx hb dX7_share_151 (by decide) ?_
    exact w_X7_share_183 C h0 (xl2) (xl5) (yl6) (ys0) ((0 : Int64)) _ _ _ _ _ hp hw (lv_sub hl [1, 2, 3, 4, 5, 0] rfl)
set_option maxHeartbeats 4000000 in
set_option maxRecDepth 100000 in
theorem w_X7_share_125 {p : Program} {l : Launch} {e : Env} {s : State} {m : MethodId} {args : Array Value} {below : List Frame} {meth : Method} {c : Code} (C : Cx p s m args meth c cX7_share none 17 RX7) {G : GX} {Sh : SH} {a0 : Nat} {p1 : Int32} {K : MI → ML → Prop} (h0 : isModel G Sh a0) : ∀ (xl2 : Int32) (yl3 : Int64) (xl5 : Int32) (ys0 : Int64) (I : MI) (L : ML) (H : Heap) (locs : List Loc) (ls : Array Slot), wp_X7_share_125 G Sh a0 p1 K xl2 yl3 xl5 ys0 I L → mW G Sh s I L H locs → lv_has ls 17 [(0, .ref a0), (1, .int p1), (2, .int xl2), (3, .long yl3), (5, .int xl5)] → W p l e (rmA 4 97) s m args below meth c H locs 0 0 (eV below G Sh K args s) (F0 m 125 ls [.long ys0]) := by
  obtain ⟨hx, hb, hr, hml, hown, hts, hlocks⟩ := id C
  intro xl2 yl3 xl5 ys0 I L H locs ls hp hw hl
  unfold wp_X7_share_125 at hp
  refine lv_lstore (lv' := [(6, .long ys0), (0, .ref a0), (1, .int p1), (2, .int xl2), (3, .long yl3), (5, .int xl5)]) hx hb dX7_share_125 hl (by decide) rfl (fun ls hl => ?_)
  refine lv_lload_n hx hb dX7_share_127 rfl (lv_at hl 4 rfl) ?_
  refine lv_lconst (v := 0) hx hb dX7_share_128 (by decide) ?_
  refine W.lcmp hx hb dX7_share_129 ?_
  refine lv_if_ge (tgt := 138) hx hb dX7_share_130 (by decide) (fun hc_28 => ?_) (fun hc_28 => ?_)
  · replace hp := hp.1 hc_28
    refine lv_lload_n hx hb dX7_share_138 rfl (lv_at hl 4 rfl) ?_
    exact w_X7_share_139 C h0 (xl2) (xl5) (ys0) (yl3) _ _ _ _ _ hp hw (lv_sub hl [1, 2, 3, 5, 0] rfl)
  · replace hp := hp.2 hc_28
    refine lv_lload_n hx hb dX7_share_133 rfl (lv_at hl 4 rfl) ?_
    refine lv_lneg hx hb dX7_share_134 ?_
    refine lv_goto (tgt := 139) hx hb dX7_share_135 (by decide) ?_
    exact w_X7_share_139 C h0 (xl2) (xl5) (ys0) ((-yl3)) _ _ _ _ _ hp hw (lv_sub hl [1, 2, 3, 5, 0] rfl)
set_option maxHeartbeats 4000000 in
set_option maxRecDepth 100000 in
theorem w_X7_share_96 {p : Program} {l : Launch} {e : Env} {s : State} {m : MethodId} {args : Array Value} {below : List Frame} {meth : Method} {c : Code} (C : Cx p s m args meth c cX7_share none 17 RX7) {G : GX} {Sh : SH} {a0 : Nat} {p1 : Int32} {K : MI → ML → Prop} (h0 : isModel G Sh a0) : ∀ (xl2 : Int32) (yl3 : Int64) (xl5 : Int32) (I : MI) (L : ML) (H : Heap) (locs : List Loc) (ls : Array Slot), wp_X7_share_96 G Sh a0 p1 K xl2 yl3 xl5 I L → mW G Sh s I L H locs → lv_has ls 17 [(0, .ref a0), (1, .int p1), (2, .int xl2), (3, .long yl3), (5, .int xl5)] → W p l e (rmA 4 97) s m args below meth c H locs 0 0 (eV below G Sh K args s) (F0 m 96 ls []) := by
  obtain ⟨hx, hb, hr, hml, hown, hts, hlocks⟩ := id C
  intro xl2 yl3 xl5 I L H locs ls hp hw hl
  unfold wp_X7_share_96 at hp
  refine lv_aload_n hx hb dX7_share_96 rfl (lv_at hl 0 rfl) ?_
  refine gf_X7_102 hx hb hts hown hw (h0.1) dX7_share_97 ?_
  refine lv_iload_n hx hb dX7_share_100 rfl (lv_at hl 1 rfl) ?_
  obtain ⟨hi_22, hp⟩ := hp
  refine r_iald hx hb hw (h0.2.2.2.2.2.2.2.2.2.2.2.2.2.2.2.2.2.2.2.2.2.2.2.2.2.2.2.2.2.2.2.1) hi_22 dX7_share_101 ?_
  refine lv_if_ge (tgt := 109) hx hb dX7_share_102 (by decide) (fun hc_23 => ?_) (fun hc_23 => ?_)
  · replace hp := hp.1 hc_23
    refine lv_aload_n hx hb dX7_share_109 rfl (lv_at hl 0 rfl) ?_
    refine lv_iload_n hx hb dX7_share_110 rfl (lv_at hl 1 rfl) ?_
    refine lv_iload_n hx hb dX7_share_111 rfl (lv_at hl 2 rfl) ?_
    refine lv_iconst (v := 1) hx hb dX7_share_112 (by decide) ?_
    refine lv_iadd hx hb dX7_share_113 ?_
    refine lv_iload hx hb dX7_share_114 (lv_at hl 4 rfl) ?_
    refine lv_aload_n hx hb dX7_share_116 rfl (lv_at hl 0 rfl) ?_
    refine gf_X7_102 hx hb hts hown hw (h0.1) dX7_share_117 ?_
    refine lv_iload_n hx hb dX7_share_120 rfl (lv_at hl 1 rfl) ?_
    obtain ⟨hi_24, hp⟩ := hp
    refine r_iald hx hb hw (h0.2.2.2.2.2.2.2.2.2.2.2.2.2.2.2.2.2.2.2.2.2.2.2.2.2.2.2.2.2.2.2.1) hi_24 dX7_share_121 ?_
    refine r_cvL (As := [.int p1, .int (xl2 + (1 : Int32)), .int xl5, .int (I (a0 + 31) (p1).toNatClampNeg)]) ⟨hx, hb, hml, hown, hts⟩ (c_X7_sumOf l G (h0) hp) (cw_X7_213 hts ⟨Nat.le_of_ble_eq_true rfl, Nat.le_of_ble_eq_true rfl⟩) hw (hw.recv (h0.1) rfl rfl) rfl rfl hl.1 (Nat.le_of_ble_eq_true rfl) ⟨Nat.zero_le _, Nat.zero_le _⟩ dX7_share_122 (fun r_25 I_26 L_27 H locs hp hw => ?_)
    exact w_X7_share_125 C h0 (xl2) (yl3) (xl5) (r_25) _ _ _ _ _ hp hw (lv_sub hl [0, 1, 2, 3, 4] rfl)
  · replace hp := hp.2 hc_23
    refine lv_lconst (v := 0) hx hb dX7_share_105 (by decide) ?_
    refine lv_goto (tgt := 125) hx hb dX7_share_106 (by decide) ?_
    exact w_X7_share_125 C h0 (xl2) (yl3) (xl5) ((0 : Int64)) _ _ _ _ _ hp hw (lv_sub hl [0, 1, 2, 3, 4] rfl)
set_option maxHeartbeats 4000000 in
set_option maxRecDepth 100000 in
theorem w_X7_share_44 {p : Program} {l : Launch} {e : Env} {s : State} {m : MethodId} {args : Array Value} {below : List Frame} {meth : Method} {c : Code} (C : Cx p s m args meth c cX7_share none 17 RX7) {G : GX} {Sh : SH} {a0 : Nat} {p1 : Int32} {K : MI → ML → Prop} (h0 : isModel G Sh a0) : ∀ (n : Nat) (xl2 : Int32) (yl3 : Int64) (xl5 : Int32) (xl6 : Int32) (I : MI) (L : ML) (H : Heap) (locs : List Loc) (ls : Array Slot), wp_X7_share_44 G Sh a0 p1 K n xl2 yl3 xl5 xl6 I L → mW G Sh s I L H locs → lv_has ls 17 [(0, .ref a0), (1, .int p1), (2, .int xl2), (3, .long yl3), (5, .int xl5), (6, .int xl6)] → W p l e (rmA 4 97) s m args below meth c H locs 0 0 (eV below G Sh K args s) (F0 m 44 ls []) := by
  obtain ⟨hx, hb, hr, hml, hown, hts, hlocks⟩ := id C
  intro n
  induction n with
  | zero => intro xl2 yl3 xl5 xl6 I L H locs ls hp hw hl; exact hp.elim
  | succ n hB44 =>
    intro xl2 yl3 xl5 xl6 I L H locs ls hp hw hl
    replace hp : wb_X7_share_44 G Sh a0 p1 K (wp_X7_share_44 G Sh a0 p1 K n) xl2 yl3 xl5 xl6 I L := hp
    unfold wb_X7_share_44 at hp
    refine lv_iload hx hb dX7_share_44 (lv_at hl 5 rfl) ?_
    refine lv_iconst (v := 4) hx hb dX7_share_46 (by decide) ?_
    refine lv_icmp_ge (tgt := 96) hx hb dX7_share_47 (by decide) (fun hc_9 => ?_) (fun hc_9 => ?_)
    · replace hp := hp.1 hc_9
      exact w_X7_share_96 C h0 (xl2) (yl3) (xl5) _ _ _ _ _ hp hw (lv_sub hl [0, 1, 2, 3, 4] rfl)
    · replace hp := hp.2 hc_9
      refine lv_lload_n hx hb dX7_share_50 rfl (lv_at hl 3 rfl) ?_
      refine lv_lconst (v := 0) hx hb dX7_share_51 (by decide) ?_
      refine W.lcmp hx hb dX7_share_52 ?_
      refine lv_if_eq (tgt := 96) hx hb dX7_share_53 (by decide) (fun hc_10 => ?_) (fun hc_10 => ?_)
      · replace hp := hp.1 hc_10
        exact w_X7_share_96 C h0 (xl2) (yl3) (xl5) _ _ _ _ _ hp hw (lv_sub hl [0, 1, 2, 3, 4] rfl)
      · replace hp := hp.2 hc_10
        refine lv_aload_n hx hb dX7_share_56 rfl (lv_at hl 0 rfl) ?_
        refine gf_X7_102 hx hb hts hown hw (h0.1) dX7_share_57 ?_
        refine lv_iload_n hx hb dX7_share_60 rfl (lv_at hl 1 rfl) ?_
        refine lv_aload_n hx hb dX7_share_61 rfl (lv_at hl 0 rfl) ?_
        refine lv_iload_n hx hb dX7_share_62 rfl (lv_at hl 1 rfl) ?_
        refine lv_iload_n hx hb dX7_share_63 rfl (lv_at hl 2 rfl) ?_
        refine lv_iconst (v := 1) hx hb dX7_share_64 (by decide) ?_
        refine lv_iadd hx hb dX7_share_65 ?_
        refine lv_iload hx hb dX7_share_66 (lv_at hl 4 rfl) ?_
        refine lv_iload hx hb dX7_share_68 (lv_at hl 5 rfl) ?_
        refine r_cvL (As := [.int p1, .int (xl2 + (1 : Int32)), .int xl5, .int xl6]) ⟨hx, hb, hml, hown, hts⟩ (c_X7_sumOf l G (h0) hp) (cw_X7_213 hts ⟨Nat.le_of_ble_eq_true rfl, Nat.le_of_ble_eq_true rfl⟩) hw (hw.recv (h0.1) rfl rfl) rfl rfl hl.1 (Nat.le_of_ble_eq_true rfl) ⟨Nat.zero_le _, Nat.zero_le _⟩ dX7_share_70 (fun r_11 I_12 L_13 H locs hp hw => ?_)
        refine lv_lconst (v := 0) hx hb dX7_share_73 (by decide) ?_
        refine W.lcmp hx hb dX7_share_74 ?_
        refine lv_if_le (tgt := 83) hx hb dX7_share_75 (by decide) (fun hc_14 => ?_) (fun hc_14 => ?_)
        · replace hp := hp.1 hc_14
          refine lv_aload_n hx hb dX7_share_83 rfl (lv_at hl 0 rfl) ?_
          refine gf_X7_102 hx hb hts hown hw (h0.1) dX7_share_84 ?_
          refine lv_iload_n hx hb dX7_share_87 rfl (lv_at hl 1 rfl) ?_
          obtain ⟨hi_15, hp⟩ := hp
          refine r_iald hx hb hw (h0.2.2.2.2.2.2.2.2.2.2.2.2.2.2.2.2.2.2.2.2.2.2.2.2.2.2.2.2.2.2.2.1) hi_15 dX7_share_88 ?_
          obtain ⟨hi_16, hp⟩ := hp
          refine r_iast hx hb hw (h0.2.2.2.2.2.2.2.2.2.2.2.2.2.2.2.2.2.2.2.2.2.2.2.2.2.2.2.2.2.2.2.1) hi_16 dX7_share_89 (fun I_17 H locs eI_17 hw => ?_)
          replace hp := hp I_17 eI_17
          obtain ⟨x_18, ex_18⟩ : ∃ z : Int32, z = xl6 + (1 : Int32) := ⟨_, rfl⟩
          replace hp := hp x_18 ex_18
          refine lv_iinc (v := x_18) (lv' := [(6, .int x_18), (0, .ref a0), (1, .int p1), (2, .int xl2), (3, .long yl3), (5, .int xl5)]) hx hb dX7_share_90 hl (k := 5) rfl (by rw [ex_18]; rfl) (by decide) rfl (fun ls hl => ?_)
          refine lv_goto (tgt := 44) hx hb dX7_share_93 (by decide) ?_
          exact hB44 (xl2) (yl3) (xl5) (x_18) _ _ _ _ _ hp hw (lv_sub hl [1, 2, 3, 4, 5, 0] rfl)
        · replace hp := hp.2 hc_14
          refine lv_iload hx hb dX7_share_78 (lv_at hl 5 rfl) ?_
          refine lv_goto (tgt := 89) hx hb dX7_share_80 (by decide) ?_
          obtain ⟨hi_19, hp⟩ := hp
          refine r_iast hx hb hw (h0.2.2.2.2.2.2.2.2.2.2.2.2.2.2.2.2.2.2.2.2.2.2.2.2.2.2.2.2.2.2.2.1) hi_19 dX7_share_89 (fun I_20 H locs eI_20 hw => ?_)
          replace hp := hp I_20 eI_20
          obtain ⟨x_21, ex_21⟩ : ∃ z : Int32, z = xl6 + (1 : Int32) := ⟨_, rfl⟩
          replace hp := hp x_21 ex_21
          refine lv_iinc (v := x_21) (lv' := [(6, .int x_21), (0, .ref a0), (1, .int p1), (2, .int xl2), (3, .long yl3), (5, .int xl5)]) hx hb dX7_share_90 hl (k := 5) rfl (by rw [ex_21]; rfl) (by decide) rfl (fun ls hl => ?_)
          refine lv_goto (tgt := 44) hx hb dX7_share_93 (by decide) ?_
          exact hB44 (xl2) (yl3) (xl5) (x_21) _ _ _ _ _ hp hw (lv_sub hl [1, 2, 3, 4, 5, 0] rfl)
set_option maxHeartbeats 4000000 in
set_option maxRecDepth 100000 in
theorem w_X7_share_32 {p : Program} {l : Launch} {e : Env} {s : State} {m : MethodId} {args : Array Value} {below : List Frame} {meth : Method} {c : Code} (C : Cx p s m args meth c cX7_share none 17 RX7) {G : GX} {Sh : SH} {a0 : Nat} {p1 : Int32} {K : MI → ML → Prop} (h0 : isModel G Sh a0) : ∀ (xl2 : Int32) (yl3 : Int64) (xs0 : Int32) (I : MI) (L : ML) (H : Heap) (locs : List Loc) (ls : Array Slot), wp_X7_share_32 G Sh a0 p1 K xl2 yl3 xs0 I L → mW G Sh s I L H locs → lv_has ls 17 [(0, .ref a0), (1, .int p1), (2, .int xl2), (3, .long yl3)] → W p l e (rmA 4 97) s m args below meth c H locs 0 0 (eV below G Sh K args s) (F0 m 32 ls [.int xs0]) := by
  obtain ⟨hx, hb, hr, hml, hown, hts, hlocks⟩ := id C
  intro xl2 yl3 xs0 I L H locs ls hp hw hl
  unfold wp_X7_share_32 at hp
  refine lv_istore (lv' := [(5, .int xs0), (0, .ref a0), (1, .int p1), (2, .int xl2), (3, .long yl3)]) hx hb dX7_share_32 hl (by decide) rfl (fun ls hl => ?_)
  refine lv_aload_n hx hb dX7_share_34 rfl (lv_at hl 1 rfl) ?_
  refine gf_X7_102 hx hb hts hown hw (h0.1) dX7_share_35 ?_
  refine lv_iload_n hx hb dX7_share_38 rfl (lv_at hl 2 rfl) ?_
  refine lv_iconst (v := (-1)) hx hb dX7_share_39 (by decide) ?_
  obtain ⟨hi_7, hp⟩ := hp
  refine r_iast hx hb hw (h0.2.2.2.2.2.2.2.2.2.2.2.2.2.2.2.2.2.2.2.2.2.2.2.2.2.2.2.2.2.2.2.1) hi_7 dX7_share_40 (fun I_8 H locs eI_8 hw => ?_)
  replace hp := hp I_8 eI_8
  refine lv_iconst (v := 0) hx hb dX7_share_41 (by decide) ?_
  refine lv_istore (lv' := [(6, .int (0 : Int32)), (5, .int xs0), (0, .ref a0), (1, .int p1), (2, .int xl2), (3, .long yl3)]) hx hb dX7_share_42 hl (by decide) rfl (fun ls hl => ?_)
  obtain ⟨n, hp⟩ := hp
  exact w_X7_share_44 C h0 n (xl2) (yl3) (xs0) ((0 : Int32)) _ _ _ _ _ hp hw (lv_sub hl [2, 3, 4, 5, 1, 0] rfl)
set_option maxHeartbeats 4000000 in
set_option maxRecDepth 100000 in
theorem c_X7_share (l : Launch) (G : GX) {Sh : SH} {a0 : Nat} {p1 : Int32} (h0 : isModel G Sh a0) {I : MI} {L : ML} {K : MI → ML → Prop} (hp : wp_X7_share G Sh a0 p1 I L K) : CtV l yX7_share (wM yX7_share cX7_share 17 none) (rmA 4 97) G Sh [.ref a0, .int p1] I L K := by
  refine ofA (own := RX7) (by decide) rfl (Nat.le_of_ble_eq_true rfl) ?_
  intro p e s m args below meth c ls C hw hl
  obtain ⟨hx, hb, hr, hml, hown, hts, hlocks⟩ := id C
  replace hl : lv_has ls 17 [(0, .ref a0), (1, .int p1)] := hl
  unfold wp_X7_share at hp
  refine lv_aload_n hx hb dX7_share_0 rfl (lv_at hl 0 rfl) ?_
  refine gf_X7_83 hx hb hts hown hw (h0.1) dX7_share_1 ?_
  refine lv_iload_n hx hb dX7_share_4 rfl (lv_at hl 1 rfl) ?_
  obtain ⟨hi_1, hp⟩ := hp
  refine r_iald hx hb hw (h0.2.2.2.2.2.2.2.2.2.2.2.2.2.2.2.2.2.2.2.2.2.2.2.2.2.1) hi_1 dX7_share_5 ?_
  refine lv_topi (fun x_2 ex_2 => ?_)
  replace hp := hp x_2 ex_2
  refine lv_istore_n (lv' := [(2, .int x_2), (0, .ref a0), (1, .int p1)]) hx hb dX7_share_6 rfl hl (by decide) rfl (fun ls hl => ?_)
  refine lv_aload_n hx hb dX7_share_7 rfl (lv_at hl 1 rfl) ?_
  refine gf_X7_99 hx hb hts hown hw (h0.1) dX7_share_8 ?_
  refine lv_iload_n hx hb dX7_share_11 rfl (lv_at hl 2 rfl) ?_
  obtain ⟨hi_3, hp⟩ := hp
  refine r_lald hx hb hw (h0.2.2.2.2.2.2.2.2.2.2.2.2.2.2.2.2.2.2.2.2.2.2.2.2.2.2.2.2.2.2.1) hi_3 dX7_share_12 ?_
  refine lv_aload_n hx hb dX7_share_13 rfl (lv_at hl 1 rfl) ?_
  refine gf_X7_96 hx hb hts hown hw (h0.1) dX7_share_14 ?_
  refine lv_iload_n hx hb dX7_share_17 rfl (lv_at hl 2 rfl) ?_
  obtain ⟨hi_4, hp⟩ := hp
  refine r_lald hx hb hw (h0.2.2.2.2.2.2.2.2.2.2.2.2.2.2.2.2.2.2.2.2.2.2.2.2.2.2.2.2.2.1) hi_4 dX7_share_18 ?_
  refine lv_lsub hx hb dX7_share_19 ?_
  refine lv_topl (fun y_5 ey_5 => ?_)
  replace hp := hp y_5 ey_5
  refine lv_lstore_n (lv' := [(3, .long y_5), (2, .int x_2), (0, .ref a0), (1, .int p1)]) hx hb dX7_share_20 rfl hl (by decide) rfl (fun ls hl => ?_)
  refine lv_lload_n hx hb dX7_share_21 rfl (lv_at hl 0 rfl) ?_
  refine lv_lconst (v := 0) hx hb dX7_share_22 (by decide) ?_
  refine W.lcmp hx hb dX7_share_23 ?_
  refine lv_if_le (tgt := 31) hx hb dX7_share_24 (by decide) (fun hc_6 => ?_) (fun hc_6 => ?_)
  · replace hp := hp.1 hc_6
    refine lv_iconst (v := 0) hx hb dX7_share_31 (by decide) ?_
    exact w_X7_share_32 C h0 (x_2) (y_5) ((0 : Int32)) _ _ _ _ _ hp hw (lv_sub hl [2, 3, 1, 0] rfl)
  · replace hp := hp.2 hc_6
    refine lv_iconst (v := 1) hx hb dX7_share_27 (by decide) ?_
    refine lv_goto (tgt := 32) hx hb dX7_share_28 (by decide) ?_
    exact w_X7_share_32 C h0 (x_2) (y_5) ((1 : Int32)) _ _ _ _ _ hp hw (lv_sub hl [2, 3, 1, 0] rfl)
set_option maxHeartbeats 4000000 in
set_option maxRecDepth 100000 in
theorem w_X7_run_260 {p : Program} {l : Launch} {e : Env} {s : State} {m : MethodId} {args : Array Value} {below : List Frame} {meth : Method} {c : Code} (C : Cx p s m args meth c cX7_run (some .long) 7 RX7) {G : GX} {Sh : SH} {a0 : Nat} {p1 : Int32} {p2 : Int32} {p3 : Int32} {K : Int64 → MI → ML → Prop} (h0 : isModel G Sh a0) : ∀ (ys0 : Int64) (xs1 : Int32) (I : MI) (L : ML) (H : Heap) (locs : List Loc) (ls : Array Slot), wp_X7_run_260 G Sh a0 p1 p2 p3 K ys0 xs1 I L → mW G Sh s I L H locs → lv_has ls 7 [(0, .ref a0), (1, .int p1)] → W p l e (rmA 5 133) s m args below meth c H locs 0 0 (eL below G Sh K args s) (F0 m 260 ls [.long ys0, .int xs1, .ref (a0 + 30)]) := by
  obtain ⟨hx, hb, hr, hml, hown, hts, hlocks⟩ := id C
  intro ys0 xs1 I L H locs ls hp hw hl
  unfold wp_X7_run_260 at hp
  obtain ⟨hi_55, hp⟩ := hp
  refine r_last hx hb hw (h0.2.2.2.2.2.2.2.2.2.2.2.2.2.2.2.2.2.2.2.2.2.2.2.2.2.2.2.2.2.2.1) hi_55 dX7_run_260 (fun L_56 H locs eL_56 hw => ?_)
  replace hp := hp L_56 eL_56
  refine lv_aload_n hx hb dX7_run_261 rfl (lv_at hl 0 rfl) ?_
  refine gf_X7_80 hx hb hts hown hw (h0.1) dX7_run_262 ?_
  refine lv_iload_n hx hb dX7_run_265 rfl (lv_at hl 1 rfl) ?_
  refine lv_dup2_11 hx hb dX7_run_266 rfl rfl ?_
  obtain ⟨hi_57, hp⟩ := hp
  refine r_iald hx hb hw (h0.2.2.2.2.2.2.2.2.2.2.2.2.2.2.2.2.2.2.2.2.2.2.2.2.1) hi_57 dX7_run_267 ?_
  refine lv_iconst (v := 1) hx hb dX7_run_268 (by decide) ?_
  refine lv_iadd hx hb dX7_run_269 ?_
  obtain ⟨hi_58, hp⟩ := hp
  refine r_iast hx hb hw (h0.2.2.2.2.2.2.2.2.2.2.2.2.2.2.2.2.2.2.2.2.2.2.2.2.1) hi_58 dX7_run_270 (fun I_59 H locs eI_59 hw => ?_)
  replace hp := hp I_59 eI_59
  refine lv_aload_n hx hb dX7_run_271 rfl (lv_at hl 0 rfl) ?_
  refine lv_iload_n hx hb dX7_run_272 rfl (lv_at hl 1 rfl) ?_
  refine r_cvV (As := [.int p1]) ⟨hx, hb, hml, hown, hts⟩ (c_X7_share l G (h0) hp) (cw_X7_210 hts ⟨Nat.le_of_ble_eq_true rfl, Nat.le_of_ble_eq_true rfl⟩) hw (hw.recv (h0.1) rfl rfl) rfl rfl hl.1 (Nat.le_of_ble_eq_true rfl) ⟨Nat.zero_le _, Nat.zero_le _⟩ dX7_run_273 (fun I_61 L_62 H locs hp hw => ?_)
  refine lv_aload_n hx hb dX7_run_276 rfl (lv_at hl 0 rfl) ?_
  refine gf_X7_99 hx hb hts hown hw (h0.1) dX7_run_277 ?_
  refine lv_iload_n hx hb dX7_run_280 rfl (lv_at hl 1 rfl) ?_
  obtain ⟨hi_63, hp⟩ := hp
  refine r_lald hx hb hw (h0.2.2.2.2.2.2.2.2.2.2.2.2.2.2.2.2.2.2.2.2.2.2.2.2.2.2.2.2.2.2.1) hi_63 dX7_run_281 ?_
  exact r_lret hx hb hr hlocks hw hp dX7_run_282
set_option maxHeartbeats 4000000 in
set_option maxRecDepth 100000 in
theorem w_X7_run_174 {p : Program} {l : Launch} {e : Env} {s : State} {m : MethodId} {args : Array Value} {below : List Frame} {meth : Method} {c : Code} (C : Cx p s m args meth c cX7_run (some .long) 7 RX7) {G : GX} {Sh : SH} {a0 : Nat} {p1 : Int32} {p2 : Int32} {p3 : Int32} {K : Int64 → MI → ML → Prop} (h0 : isModel G Sh a0) : ∀ (n : Nat) (xl4 : Int32) (xl5 : Int32) (I : MI) (L : ML) (H : Heap) (locs : List Loc) (ls : Array Slot), wp_X7_run_174 G Sh a0 p1 p2 p3 K n xl4 xl5 I L → mW G Sh s I L H locs → lv_has ls 7 [(0, .ref a0), (1, .int p1), (2, .int p2), (3, .int p3), (4, .int xl4), (5, .int xl5)] → W p l e (rmA 5 133) s m args below meth c H locs 0 0 (eL below G Sh K args s) (F0 m 174 ls []) := by
  obtain ⟨hx, hb, hr, hml, hown, hts, hlocks⟩ := id C
  intro n
  induction n with
  | zero => intro xl4 xl5 I L H locs ls hp hw hl; exact hp.elim
  | succ n hB174 =>
    intro xl4 xl5 I L H locs ls hp hw hl
    replace hp : wb_X7_run_174 G Sh a0 p1 p2 p3 K (wp_X7_run_174 G Sh a0 p1 p2 p3 K n) xl4 xl5 I L := hp
    unfold wb_X7_run_174 at hp
    refine lv_iload hx hb dX7_run_174 (lv_at hl 5 rfl) ?_
    refine lv_iload hx hb dX7_run_176 (lv_at hl 4 rfl) ?_
    refine lv_icmp_ge (tgt := 223) hx hb dX7_run_178 (by decide) (fun hc_41 => ?_) (fun hc_41 => ?_)
    · replace hp := hp.1 hc_41
      refine lv_aload_n hx hb dX7_run_223 rfl (lv_at hl 0 rfl) ?_
      refine gf_X7_99 hx hb hts hown hw (h0.1) dX7_run_224 ?_
      refine lv_iload_n hx hb dX7_run_227 rfl (lv_at hl 1 rfl) ?_
      refine lv_iload_n hx hb dX7_run_228 rfl (lv_at hl 2 rfl) ?_
      refine lv_if_ne (tgt := 241) hx hb dX7_run_229 (by decide) (fun hc_42 => ?_) (fun hc_42 => ?_)
      · replace hp := hp.2 hc_42
        refine lv_iload_n hx hb dX7_run_241 rfl (lv_at hl 2 rfl) ?_
        refine lv_iconst (v := 1) hx hb dX7_run_242 (by decide) ?_
        refine lv_icmp_ne (tgt := 251) hx hb dX7_run_243 (by decide) (fun hc_43 => ?_) (fun hc_43 => ?_)
        · replace hp := hp.2 hc_43
          refine lv_aload_n hx hb dX7_run_251 rfl (lv_at hl 0 rfl) ?_
          refine gf_X7_96 hx hb hts hown hw (h0.1) dX7_run_252 ?_
          refine lv_iload_n hx hb dX7_run_255 rfl (lv_at hl 1 rfl) ?_
          obtain ⟨hi_44, hp⟩ := hp
          refine r_lald hx hb hw (h0.2.2.2.2.2.2.2.2.2.2.2.2.2.2.2.2.2.2.2.2.2.2.2.2.2.2.2.2.2.1) hi_44 dX7_run_256 ?_
          refine lv_iload_n hx hb dX7_run_257 rfl (lv_at hl 3 rfl) ?_
          refine lv_i2l hx hb dX7_run_258 rfl ?_
          refine lv_ladd hx hb dX7_run_259 ?_
          exact w_X7_run_260 C h0 (((L (a0 + 29) (p1).toNatClampNeg) + (Int32.toInt64 p3))) (p1) _ _ _ _ _ hp hw (lv_sub hl [0, 1] rfl)
        · replace hp := hp.1 hc_43
          refine lv_iload_n hx hb dX7_run_246 rfl (lv_at hl 3 rfl) ?_
          refine lv_i2l hx hb dX7_run_247 rfl ?_
          refine lv_goto (tgt := 260) hx hb dX7_run_248 (by decide) ?_
          exact w_X7_run_260 C h0 ((Int32.toInt64 p3)) (p1) _ _ _ _ _ hp hw (lv_sub hl [0, 1] rfl)
      · replace hp := hp.1 hc_42
        refine lv_aload_n hx hb dX7_run_232 rfl (lv_at hl 0 rfl) ?_
        refine gf_X7_96 hx hb hts hown hw (h0.1) dX7_run_233 ?_
        refine lv_iload_n hx hb dX7_run_236 rfl (lv_at hl 1 rfl) ?_
        obtain ⟨hi_45, hp⟩ := hp
        refine r_lald hx hb hw (h0.2.2.2.2.2.2.2.2.2.2.2.2.2.2.2.2.2.2.2.2.2.2.2.2.2.2.2.2.2.1) hi_45 dX7_run_237 ?_
        refine lv_goto (tgt := 260) hx hb dX7_run_238 (by decide) ?_
        exact w_X7_run_260 C h0 ((L (a0 + 29) (p1).toNatClampNeg)) (p1) _ _ _ _ _ hp hw (lv_sub hl [0, 1] rfl)
    · replace hp := hp.2 hc_41
      refine lv_aload_n hx hb dX7_run_181 rfl (lv_at hl 0 rfl) ?_
      refine gf_X7_96 hx hb hts hown hw (h0.1) dX7_run_182 ?_
      refine lv_iload_n hx hb dX7_run_185 rfl (lv_at hl 1 rfl) ?_
      refine lv_aload_n hx hb dX7_run_186 rfl (lv_at hl 0 rfl) ?_
      refine gf_X7_96 hx hb hts hown hw (h0.1) dX7_run_187 ?_
      refine lv_iload_n hx hb dX7_run_190 rfl (lv_at hl 1 rfl) ?_
      obtain ⟨hi_46, hp⟩ := hp
      refine r_lald hx hb hw (h0.2.2.2.2.2.2.2.2.2.2.2.2.2.2.2.2.2.2.2.2.2.2.2.2.2.2.2.2.2.1) hi_46 dX7_run_191 ?_
      refine lv_aload_n hx hb dX7_run_192 rfl (lv_at hl 0 rfl) ?_
      refine gf_X7_86 hx hb hts hown hw (h0.1) dX7_run_193 ?_
      refine lv_bipush (v := 24) hx hb dX7_run_196 (by decide) ?_
      refine lv_iload_n hx hb dX7_run_198 rfl (lv_at hl 1 rfl) ?_
      refine lv_imul hx hb dX7_run_199 ?_
      refine lv_iload hx hb dX7_run_200 (lv_at hl 5 rfl) ?_
      refine lv_iadd hx hb dX7_run_202 ?_
      refine lv_topi (fun x_47 ex_47 => ?_)
      replace hp := hp x_47 ex_47
      obtain ⟨hi_48, hp⟩ := hp
      refine r_iald hx hb hw (h0.2.2.2.2.2.2.2.2.2.2.2.2.2.2.2.2.2.2.2.2.2.2.2.2.2.2.1) hi_48 dX7_run_203 ?_
      refine lv_i2l hx hb dX7_run_204 rfl ?_
      refine lv_ladd hx hb dX7_run_205 ?_
      refine lv_aload_n hx hb dX7_run_206 rfl (lv_at hl 0 rfl) ?_
      refine lv_iload_n hx hb dX7_run_207 rfl (lv_at hl 1 rfl) ?_
      refine lv_iload hx hb dX7_run_208 (lv_at hl 5 rfl) ?_
      refine lv_iconst (v := 1) hx hb dX7_run_210 (by decide) ?_
      refine lv_iadd hx hb dX7_run_211 ?_
      refine r_cvL (As := [.int p1, .int (xl5 + (1 : Int32))]) ⟨hx, hb, hml, hown, hts⟩ (c_X7_widthOfGlue l G (h0) hp) (cw_X7_206 hts ⟨Nat.le_of_ble_eq_true rfl, Nat.le_of_ble_eq_true rfl⟩) hw (hw.recv (h0.1) rfl rfl) rfl rfl hl.1 (Nat.le_of_ble_eq_true rfl) ⟨Nat.zero_le _, Nat.zero_le _⟩ dX7_run_212 (fun r_49 I_50 L_51 H locs hp hw => ?_)
      refine lv_ladd hx hb dX7_run_215 ?_
      obtain ⟨hi_52, hp⟩ := hp
      refine r_last hx hb hw (h0.2.2.2.2.2.2.2.2.2.2.2.2.2.2.2.2.2.2.2.2.2.2.2.2.2.2.2.2.2.1) hi_52 dX7_run_216 (fun L_53 H locs eL_53 hw => ?_)
      replace hp := hp L_53 eL_53
      obtain ⟨x_54, ex_54⟩ : ∃ z : Int32, z = xl5 + (1 : Int32) := ⟨_, rfl⟩
      replace hp := hp x_54 ex_54
      refine lv_iinc (v := x_54) (lv' := [(5, .int x_54), (0, .ref a0), (1, .int p1), (2, .int p2), (3, .int p3), (4, .int xl4)]) hx hb dX7_run_217 hl (k := 5) rfl (by rw [ex_54]; rfl) (by decide) rfl (fun ls hl => ?_)
      refine lv_goto (tgt := 174) hx hb dX7_run_220 (by decide) ?_
      exact hB174 (xl4) (x_54) _ _ _ _ _ hp hw (lv_sub hl [1, 2, 3, 4, 5, 0] rfl)
set_option maxHeartbeats 4000000 in
set_option maxRecDepth 100000 in
theorem w_X7_run_84 {p : Program} {l : Launch} {e : Env} {s : State} {m : MethodId} {args : Array Value} {below : List Frame} {meth : Method} {c : Code} (C : Cx p s m args meth c cX7_run (some .long) 7 RX7) {G : GX} {Sh : SH} {a0 : Nat} {p1 : Int32} {p2 : Int32} {p3 : Int32} {K : Int64 → MI → ML → Prop} (h0 : isModel G Sh a0) : ∀ (n : Nat) (xl4 : Int32) (xl5 : Int32) (I : MI) (L : ML) (H : Heap) (locs : List Loc) (ls : Array Slot), wp_X7_run_84 G Sh a0 p1 p2 p3 K n xl4 xl5 I L → mW G Sh s I L H locs → lv_has ls 7 [(0, .ref a0), (1, .int p1), (2, .int p2), (3, .int p3), (4, .int xl4), (5, .int xl5)] → W p l e (rmA 5 133) s m args below meth c H locs 0 0 (eL below G Sh K args s) (F0 m 84 ls []) := by
  obtain ⟨hx, hb, hr, hml, hown, hts, hlocks⟩ := id C
  intro n
  induction n with
  | zero => intro xl4 xl5 I L H locs ls hp hw hl; exact hp.elim
  | succ n hB84 =>
    intro xl4 xl5 I L H locs ls hp hw hl
    replace hp : wb_X7_run_84 G Sh a0 p1 p2 p3 K (wp_X7_run_84 G Sh a0 p1 p2 p3 K n) xl4 xl5 I L := hp
    unfold wb_X7_run_84 at hp
    refine lv_iload hx hb dX7_run_84 (lv_at hl 5 rfl) ?_
    refine lv_aload_n hx hb dX7_run_86 rfl (lv_at hl 0 rfl) ?_
    refine gf_X7_59 hx hb hts hown hw (h0.1) dX7_run_87 ?_
    refine lv_iload_n hx hb dX7_run_90 rfl (lv_at hl 1 rfl) ?_
    obtain ⟨hi_21, hp⟩ := hp
    refine r_iald hx hb hw (h0.2.2.2.2.2.2.2.2.2.2.2.2.2.2.2.2.2.1) hi_21 dX7_run_91 ?_
    refine lv_icmp_ge (tgt := 146) hx hb dX7_run_92 (by decide) (fun hc_22 => ?_) (fun hc_22 => ?_)
    · replace hp := hp.1 hc_22
      refine lv_aload_n hx hb dX7_run_146 rfl (lv_at hl 0 rfl) ?_
      refine gf_X7_83 hx hb hts hown hw (h0.1) dX7_run_147 ?_
      refine lv_iload_n hx hb dX7_run_150 rfl (lv_at hl 1 rfl) ?_
      refine lv_iload hx hb dX7_run_151 (lv_at hl 4 rfl) ?_
      obtain ⟨hi_23, hp⟩ := hp
      refine r_iast hx hb hw (h0.2.2.2.2.2.2.2.2.2.2.2.2.2.2.2.2.2.2.2.2.2.2.2.2.2.1) hi_23 dX7_run_153 (fun I_24 H locs eI_24 hw => ?_)
      replace hp := hp I_24 eI_24
      refine lv_aload_n hx hb dX7_run_154 rfl (lv_at hl 0 rfl) ?_
      refine lv_iload_n hx hb dX7_run_155 rfl (lv_at hl 1 rfl) ?_
      refine r_cvV (As := [.int p1]) ⟨hx, hb, hml, hown, hts⟩ (c_X7_findWidths l G (h0) hp) (cw_X7_203 hts ⟨Nat.le_of_ble_eq_true rfl, Nat.le_of_ble_eq_true rfl⟩) hw (hw.recv (h0.1) rfl rfl) rfl rfl hl.1 (Nat.le_of_ble_eq_true rfl) ⟨Nat.zero_le _, Nat.zero_le _⟩ dX7_run_156 (fun I_26 L_27 H locs hp hw => ?_)
      refine lv_aload_n hx hb dX7_run_159 rfl (lv_at hl 0 rfl) ?_
      refine gf_X7_96 hx hb hts hown hw (h0.1) dX7_run_160 ?_
      refine lv_iload_n hx hb dX7_run_163 rfl (lv_at hl 1 rfl) ?_
      refine lv_aload_n hx hb dX7_run_164 rfl (lv_at hl 0 rfl) ?_
      refine lv_iload_n hx hb dX7_run_165 rfl (lv_at hl 1 rfl) ?_
      refine lv_iconst (v := 0) hx hb dX7_run_166 (by decide) ?_
      refine r_cvL (As := [.int p1, .int (0 : Int32)]) ⟨hx, hb, hml, hown, hts⟩ (c_X7_widthOfGlue l G (h0) hp) (cw_X7_206 hts ⟨Nat.le_of_ble_eq_true rfl, Nat.le_of_ble_eq_true rfl⟩) hw (hw.recv (h0.1) rfl rfl) rfl rfl hl.1 (Nat.le_of_ble_eq_true rfl) ⟨Nat.zero_le _, Nat.zero_le _⟩ dX7_run_167 (fun r_28 I_29 L_30 H locs hp hw => ?_)
      obtain ⟨hi_31, hp⟩ := hp
      refine r_last hx hb hw (h0.2.2.2.2.2.2.2.2.2.2.2.2.2.2.2.2.2.2.2.2.2.2.2.2.2.2.2.2.2.1) hi_31 dX7_run_170 (fun L_32 H locs eL_32 hw => ?_)
      replace hp := hp L_32 eL_32
      refine lv_iconst (v := 0) hx hb dX7_run_171 (by decide) ?_
      refine lv_istore (lv' := [(5, .int (0 : Int32)), (0, .ref a0), (1, .int p1), (2, .int p2), (3, .int p3), (4, .int xl4)]) hx hb dX7_run_172 hl (by decide) rfl (fun ls hl => ?_)
      obtain ⟨n, hp⟩ := hp
      exact w_X7_run_174 C h0 n (xl4) ((0 : Int32)) _ _ _ _ _ hp hw (lv_sub hl [1, 2, 3, 4, 5, 0] rfl)
    · replace hp := hp.2 hc_22
      refine lv_aload_n hx hb dX7_run_95 rfl (lv_at hl 0 rfl) ?_
      refine gf_X7_65 hx hb hts hown hw (h0.1) dX7_run_96 ?_
      refine lv_sipush (v := 480) hx hb dX7_run_99 (by decide) ?_
      refine lv_iload_n hx hb dX7_run_102 rfl (lv_at hl 1 rfl) ?_
      refine lv_imul hx hb dX7_run_103 ?_
      refine lv_iload hx hb dX7_run_104 (lv_at hl 5 rfl) ?_
      refine lv_iadd hx hb dX7_run_106 ?_
      refine lv_topi (fun x_33 ex_33 => ?_)
      replace hp := hp x_33 ex_33
      obtain ⟨hi_34, hp⟩ := hp
      refine r_iald hx hb hw (h0.2.2.2.2.2.2.2.2.2.2.2.2.2.2.2.2.2.2.2.1) hi_34 dX7_run_107 ?_
      refine lv_aload_n hx hb dX7_run_108 rfl (lv_at hl 0 rfl) ?_
      refine gf_X7_68 hx hb hts hown hw (h0.1) dX7_run_109 ?_
      refine lv_sipush (v := 480) hx hb dX7_run_112 (by decide) ?_
      refine lv_iload_n hx hb dX7_run_115 rfl (lv_at hl 1 rfl) ?_
      refine lv_imul hx hb dX7_run_116 ?_
      refine lv_iload hx hb dX7_run_117 (lv_at hl 5 rfl) ?_
      refine lv_iadd hx hb dX7_run_119 ?_
      refine lv_topi (fun x_35 ex_35 => ?_)
      replace hp := hp x_35 ex_35
      obtain ⟨hi_36, hp⟩ := hp
      refine r_iald hx hb hw (h0.2.2.2.2.2.2.2.2.2.2.2.2.2.2.2.2.2.2.2.2.1) hi_36 dX7_run_120 ?_
      refine lv_iadd hx hb dX7_run_121 ?_
      refine lv_topi (fun x_37 ex_37 => ?_)
      replace hp := hp x_37 ex_37
      refine lv_istore (lv' := [(6, .int x_37), (0, .ref a0), (1, .int p1), (2, .int p2), (3, .int p3), (4, .int xl4), (5, .int xl5)]) hx hb dX7_run_122 hl (by decide) rfl (fun ls hl => ?_)
      refine lv_iload hx hb dX7_run_124 (lv_at hl 0 rfl) ?_
      refine lv_iload hx hb dX7_run_126 (lv_at hl 5 rfl) ?_
      refine lv_icmp_le (tgt := 136) hx hb dX7_run_128 (by decide) (fun hc_38 => ?_) (fun hc_38 => ?_)
      · replace hp := hp.1 hc_38
        refine lv_iload hx hb dX7_run_136 (lv_at hl 5 rfl) ?_
        refine lv_istore (lv' := [(4, .int xl4), (6, .int x_37), (0, .ref a0), (1, .int p1), (2, .int p2), (3, .int p3), (5, .int xl5)]) hx hb dX7_run_138 hl (by decide) rfl (fun ls hl => ?_)
        obtain ⟨x_39, ex_39⟩ : ∃ z : Int32, z = xl5 + (1 : Int32) := ⟨_, rfl⟩
        replace hp := hp x_39 ex_39
        refine lv_iinc (v := x_39) (lv' := [(5, .int x_39), (4, .int xl4), (6, .int x_37), (0, .ref a0), (1, .int p1), (2, .int p2), (3, .int p3)]) hx hb dX7_run_140 hl (k := 6) rfl (by rw [ex_39]; rfl) (by decide) rfl (fun ls hl => ?_)
        refine lv_goto (tgt := 84) hx hb dX7_run_143 (by decide) ?_
        exact hB84 (xl4) (x_39) _ _ _ _ _ hp hw (lv_sub hl [3, 4, 5, 6, 1, 0] rfl)
      · replace hp := hp.2 hc_38
        refine lv_iload hx hb dX7_run_131 (lv_at hl 0 rfl) ?_
        refine lv_goto (tgt := 138) hx hb dX7_run_133 (by decide) ?_
        refine lv_istore (lv' := [(4, .int x_37), (6, .int x_37), (0, .ref a0), (1, .int p1), (2, .int p2), (3, .int p3), (5, .int xl5)]) hx hb dX7_run_138 hl (by decide) rfl (fun ls hl => ?_)
        obtain ⟨x_40, ex_40⟩ : ∃ z : Int32, z = xl5 + (1 : Int32) := ⟨_, rfl⟩
        replace hp := hp x_40 ex_40
        refine lv_iinc (v := x_40) (lv' := [(5, .int x_40), (4, .int x_37), (6, .int x_37), (0, .ref a0), (1, .int p1), (2, .int p2), (3, .int p3)]) hx hb dX7_run_140 hl (k := 6) rfl (by rw [ex_40]; rfl) (by decide) rfl (fun ls hl => ?_)
        refine lv_goto (tgt := 84) hx hb dX7_run_143 (by decide) ?_
        exact hB84 (x_37) (x_40) _ _ _ _ _ hp hw (lv_sub hl [3, 4, 5, 6, 1, 0] rfl)
set_option maxHeartbeats 4000000 in
set_option maxRecDepth 100000 in
theorem w_X7_run_73 {p : Program} {l : Launch} {e : Env} {s : State} {m : MethodId} {args : Array Value} {below : List Frame} {meth : Method} {c : Code} (C : Cx p s m args meth c cX7_run (some .long) 7 RX7) {G : GX} {Sh : SH} {a0 : Nat} {p1 : Int32} {p2 : Int32} {p3 : Int32} {K : Int64 → MI → ML → Prop} (h0 : isModel G Sh a0) : ∀  (I : MI) (L : ML) (H : Heap) (locs : List Loc) (ls : Array Slot), wp_X7_run_73 G Sh a0 p1 p2 p3 K  I L → mW G Sh s I L H locs → lv_has ls 7 [(0, .ref a0), (1, .int p1), (2, .int p2), (3, .int p3)] → W p l e (rmA 5 133) s m args below meth c H locs 0 0 (eL below G Sh K args s) (F0 m 73 ls []) := by
  obtain ⟨hx, hb, hr, hml, hown, hts, hlocks⟩ := id C
  intro I L H locs ls hp hw hl
  unfold wp_X7_run_73 at hp
  refine lv_aload_n hx hb dX7_run_73 rfl (lv_at hl 0 rfl) ?_
  refine gf_X7_20 hx hb hts hown hw (h0.1) dX7_run_74 ?_
  refine lv_iload_n hx hb dX7_run_77 rfl (lv_at hl 1 rfl) ?_
  obtain ⟨hi_19, hp⟩ := hp
  refine r_iald hx hb hw (h0.2.2.2.2.1) hi_19 dX7_run_78 ?_
  refine lv_topi (fun x_20 ex_20 => ?_)
  replace hp := hp x_20 ex_20
  refine lv_istore (lv' := [(4, .int x_20), (0, .ref a0), (1, .int p1), (2, .int p2), (3, .int p3)]) hx hb dX7_run_79 hl (by decide) rfl (fun ls hl => ?_)
  refine lv_iconst (v := 0) hx hb dX7_run_81 (by decide) ?_
  refine lv_istore (lv' := [(5, .int (0 : Int32)), (4, .int x_20), (0, .ref a0), (1, .int p1), (2, .int p2), (3, .int p3)]) hx hb dX7_run_82 hl (by decide) rfl (fun ls hl => ?_)
  obtain ⟨n, hp⟩ := hp
  exact w_X7_run_84 C h0 n (x_20) ((0 : Int32)) _ _ _ _ _ hp hw (lv_sub hl [2, 3, 4, 5, 1, 0] rfl)
set_option maxHeartbeats 4000000 in
set_option maxRecDepth 100000 in
theorem c_X7_run (l : Launch) (G : GX) {Sh : SH} {a0 : Nat} {p1 : Int32} {p2 : Int32} {p3 : Int32} (h0 : isModel G Sh a0) {I : MI} {L : ML} {K : Int64 → MI → ML → Prop} (hp : wp_X7_run G Sh a0 p1 p2 p3 I L K) : CtL l yX7_run (wM yX7_run cX7_run 7 (some .long)) (rmA 5 133) G Sh [.ref a0, .int p1, .int p2, .int p3] I L K := by
  refine ofA (own := RX7) (by decide) rfl (Nat.le_of_ble_eq_true rfl) ?_
  intro p e s m args below meth c ls C hw hl
  obtain ⟨hx, hb, hr, hml, hown, hts, hlocks⟩ := id C
  replace hl : lv_has ls 7 [(0, .ref a0), (1, .int p1), (2, .int p2), (3, .int p3)] := hl
  unfold wp_X7_run at hp
  refine lv_aload_n hx hb dX7_run_0 rfl (lv_at hl 0 rfl) ?_
  refine lv_iconst (v := 0) hx hb dX7_run_1 (by decide) ?_
  refine pf_X7_114 hx hb hts hown hw (h0.1) dX7_run_2 (fun I_1 H locs eI_1 hw => ?_)
  replace hp := hp I_1 eI_1
  refine lv_aload_n hx hb dX7_run_5 rfl (lv_at hl 0 rfl) ?_
  refine lv_iload_n hx hb dX7_run_6 rfl (lv_at hl 1 rfl) ?_
  refine r_cvI (As := [.int p1]) ⟨hx, hb, hml, hown, hts⟩ (c_X7_isTable l G (h0) hp) (cw_X7_121 hts ⟨Nat.le_of_ble_eq_true rfl, Nat.le_of_ble_eq_true rfl⟩) hw (hw.recv (h0.1) rfl rfl) rfl rfl hl.1 (Nat.le_of_ble_eq_true rfl) ⟨Nat.zero_le _, Nat.zero_le _⟩ dX7_run_7 (fun r_2 I_3 L_4 H locs hp hw => ?_)
  refine lv_if_ne (tgt := 17) hx hb dX7_run_10 (by decide) (fun hc_5 => ?_) (fun hc_5 => ?_)
  · replace hp := hp.2 hc_5
    refine lv_aload_n hx hb dX7_run_17 rfl (lv_at hl 0 rfl) ?_
    refine gf_X7_16 hx hb hts hown hw (h0.1) dX7_run_18 ?_
    refine lv_iload_n hx hb dX7_run_21 rfl (lv_at hl 1 rfl) ?_
    obtain ⟨hi_6, hp⟩ := hp
    refine r_zald hx hb hw (h0.2.2.2.1) hi_6 dX7_run_22 ?_
    refine lv_if_eq (tgt := 35) hx hb dX7_run_23 (by decide) (fun hc_7 => ?_) (fun hc_7 => ?_)
    · replace hp := hp.1 hc_7
      refine lv_ldc2 hx hb hown (hts _ k_886) dX7_run_35 ?_
      exact r_lret hx hb hr hlocks hw hp dX7_run_38
    · replace hp := hp.2 hc_7
      refine lv_aload_n hx hb dX7_run_26 rfl (lv_at hl 0 rfl) ?_
      refine gf_X7_50 hx hb hts hown hw (h0.1) dX7_run_27 ?_
      refine lv_iload_n hx hb dX7_run_30 rfl (lv_at hl 1 rfl) ?_
      obtain ⟨hi_8, hp⟩ := hp
      refine r_zald hx hb hw (h0.2.2.2.2.2.2.2.2.2.2.2.2.2.2.1) hi_8 dX7_run_31 ?_
      refine lv_if_eq (tgt := 39) hx hb dX7_run_32 (by decide) (fun hc_9 => ?_) (fun hc_9 => ?_)
      · replace hp := hp.1 hc_9
        refine lv_iload_n hx hb dX7_run_39 rfl (lv_at hl 2 rfl) ?_
        refine lv_i2l hx hb dX7_run_40 rfl ?_
        refine lv_lconst (v := 0) hx hb dX7_run_41 (by decide) ?_
        refine lv_ldc2 hx hb hown (hts _ k_887) dX7_run_42 ?_
        refine r_csI (As := [.long (Int32.toInt64 p2), .long (0 : Int64), .long (2 : Int64)]) ⟨hx, hb, hml, hown, hts⟩ (c_X7_in l G  hp) (cw_X7_149 hts ⟨Nat.le_of_ble_eq_true rfl, Nat.le_of_ble_eq_true rfl⟩) hw rfl rfl hl.1 (Nat.le_of_ble_eq_true rfl) ⟨Nat.zero_le _, Nat.zero_le _⟩ dX7_run_45 (fun r_10 I_11 L_12 H locs hp hw => ?_)
        refine lv_if_eq (tgt := 69) hx hb dX7_run_48 (by decide) (fun hc_13 => ?_) (fun hc_13 => ?_)
        · replace hp := hp.1 hc_13
          refine lv_ldc2 hx hb hown (hts _ k_890) dX7_run_69 ?_
          exact r_lret hx hb hr hlocks hw hp dX7_run_72
        · replace hp := hp.2 hc_13
          refine lv_iload_n hx hb dX7_run_51 rfl (lv_at hl 2 rfl) ?_
          refine lv_if_le (tgt := 73) hx hb dX7_run_52 (by decide) (fun hc_14 => ?_) (fun hc_14 => ?_)
          · replace hp := hp.1 hc_14
            exact w_X7_run_73 C h0  _ _ _ _ _ hp hw (lv_sub hl [0, 1, 2, 3] rfl)
          · replace hp := hp.2 hc_14
            refine lv_iload_n hx hb dX7_run_55 rfl (lv_at hl 3 rfl) ?_
            refine lv_i2l hx hb dX7_run_56 rfl ?_
            refine lv_ldc2 hx hb hown (hts _ k_888) dX7_run_57 ?_
            refine lv_ldc2 hx hb hown (hts _ k_889) dX7_run_60 ?_
            refine r_csI (As := [.long (Int32.toInt64 p3), .long (-1000000 : Int64), .long (1000000 : Int64)]) ⟨hx, hb, hml, hown, hts⟩ (c_X7_in l G  hp) (cw_X7_149 hts ⟨Nat.le_of_ble_eq_true rfl, Nat.le_of_ble_eq_true rfl⟩) hw rfl rfl hl.1 (Nat.le_of_ble_eq_true rfl) ⟨Nat.zero_le _, Nat.zero_le _⟩ dX7_run_63 (fun r_15 I_16 L_17 H locs hp hw => ?_)
            refine lv_if_ne (tgt := 73) hx hb dX7_run_66 (by decide) (fun hc_18 => ?_) (fun hc_18 => ?_)
            · replace hp := hp.2 hc_18
              exact w_X7_run_73 C h0  _ _ _ _ _ hp hw (lv_sub hl [0, 1, 2, 3] rfl)
            · replace hp := hp.1 hc_18
              refine lv_ldc2 hx hb hown (hts _ k_890) dX7_run_69 ?_
              exact r_lret hx hb hr hlocks hw hp dX7_run_72
      · replace hp := hp.2 hc_9
        refine lv_ldc2 hx hb hown (hts _ k_886) dX7_run_35 ?_
        exact r_lret hx hb hr hlocks hw hp dX7_run_38
  · replace hp := hp.1 hc_5
    refine lv_ldc2 hx hb hown (hts _ k_885) dX7_run_13 ?_
    exact r_lret hx hb hr hlocks hw hp dX7_run_16
set_option maxHeartbeats 4000000 in
set_option maxRecDepth 100000 in
theorem c_X7_shrink (l : Launch) (G : GX) {Sh : SH} {a0 : Nat} {p1 : Int32} {p2 : Int32} {p3 : Int32} {p4 : Int32} (h0 : isModel G Sh a0) {I : MI} {L : ML} {K : Int32 → MI → ML → Prop} (hp : wp_X7_shrink G Sh a0 p1 p2 p3 p4 I L K) : CtI l yX7_shrink (wM yX7_shrink cX7_shrink 6 (some .int)) (rmA 2 47) G Sh [.ref a0, .int p1, .int p2, .int p3, .int p4] I L K := by
  refine ofA (own := RX7) (by decide) rfl (Nat.le_of_ble_eq_true rfl) ?_
  intro p e s m args below meth c ls C hw hl
  obtain ⟨hx, hb, hr, hml, hown, hts, hlocks⟩ := id C
  replace hl : lv_has ls 6 [(0, .ref a0), (1, .int p1), (2, .int p2), (3, .int p3), (4, .int p4)] := hl
  unfold wp_X7_shrink at hp
  refine lv_aload_n hx hb dX7_shrink_0 rfl (lv_at hl 0 rfl) ?_
  refine lv_iconst (v := 0) hx hb dX7_shrink_1 (by decide) ?_
  refine pf_X7_114 hx hb hts hown hw (h0.1) dX7_shrink_2 (fun I_1 H locs eI_1 hw => ?_)
  replace hp := hp I_1 eI_1
  refine lv_aload_n hx hb dX7_shrink_5 rfl (lv_at hl 0 rfl) ?_
  refine lv_iload_n hx hb dX7_shrink_6 rfl (lv_at hl 1 rfl) ?_
  refine lv_iload_n hx hb dX7_shrink_7 rfl (lv_at hl 2 rfl) ?_
  refine r_cvI (As := [.int p1, .int p2]) ⟨hx, hb, hml, hown, hts⟩ (c_X7_wrongGlue l G (h0) hp) (cw_X7_153 hts ⟨Nat.le_of_ble_eq_true rfl, Nat.le_of_ble_eq_true rfl⟩) hw (hw.recv (h0.1) rfl rfl) rfl rfl hl.1 (Nat.le_of_ble_eq_true rfl) ⟨Nat.zero_le _, Nat.zero_le _⟩ dX7_shrink_8 (fun r_2 I_3 L_4 H locs hp hw => ?_)
  refine lv_istore (lv' := [(5, .int r_2), (0, .ref a0), (1, .int p1), (2, .int p2), (3, .int p3), (4, .int p4)]) hx hb dX7_shrink_11 hl (by decide) rfl (fun ls hl => ?_)
  refine lv_iload hx hb dX7_shrink_13 (lv_at hl 0 rfl) ?_
  refine lv_if_eq (tgt := 21) hx hb dX7_shrink_15 (by decide) (fun hc_5 => ?_) (fun hc_5 => ?_)
  · replace hp := hp.1 hc_5
    refine lv_iload_n hx hb dX7_shrink_21 rfl (lv_at hl 4 rfl) ?_
    refine lv_i2l hx hb dX7_shrink_22 rfl ?_
    refine lv_lconst (v := 0) hx hb dX7_shrink_23 (by decide) ?_
    refine lv_ldc2 hx hb hown (hts _ k_833) dX7_shrink_24 ?_
    refine r_csI (As := [.long (Int32.toInt64 p3), .long (0 : Int64), .long (10000 : Int64)]) ⟨hx, hb, hml, hown, hts⟩ (c_X7_in l G  hp) (cw_X7_149 hts ⟨Nat.le_of_ble_eq_true rfl, Nat.le_of_ble_eq_true rfl⟩) hw rfl rfl hl.1 (Nat.le_of_ble_eq_true rfl) ⟨Nat.zero_le _, Nat.zero_le _⟩ dX7_shrink_27 (fun r_6 I_7 L_8 H locs hp hw => ?_)
    refine lv_if_eq (tgt := 46) hx hb dX7_shrink_30 (by decide) (fun hc_9 => ?_) (fun hc_9 => ?_)
    · replace hp := hp.1 hc_9
      refine lv_bipush (v := (-2)) hx hb dX7_shrink_46 (by decide) ?_
      exact r_iret hx hb hr hlocks hw hp dX7_shrink_48
    · replace hp := hp.2 hc_9
      refine lv_iload hx hb dX7_shrink_33 (lv_at hl 5 rfl) ?_
      refine lv_i2l hx hb dX7_shrink_35 rfl ?_
      refine lv_lconst (v := 0) hx hb dX7_shrink_36 (by decide) ?_
      refine lv_ldc2 hx hb hown (hts _ k_834) dX7_shrink_37 ?_
      refine r_csI (As := [.long (Int32.toInt64 p4), .long (0 : Int64), .long (3 : Int64)]) ⟨hx, hb, hml, hown, hts⟩ (c_X7_in l G  hp) (cw_X7_149 hts ⟨Nat.le_of_ble_eq_true rfl, Nat.le_of_ble_eq_true rfl⟩) hw rfl rfl hl.1 (Nat.le_of_ble_eq_true rfl) ⟨Nat.zero_le _, Nat.zero_le _⟩ dX7_shrink_40 (fun r_10 I_11 L_12 H locs hp hw => ?_)
      refine lv_if_ne (tgt := 49) hx hb dX7_shrink_43 (by decide) (fun hc_13 => ?_) (fun hc_13 => ?_)
      · replace hp := hp.2 hc_13
        refine lv_aload_n hx hb dX7_shrink_49 rfl (lv_at hl 1 rfl) ?_
        refine gf_X7_41 hx hb hts hown hw (h0.1) dX7_shrink_50 ?_
        refine lv_bipush (v := 13) hx hb dX7_shrink_53 (by decide) ?_
        refine lv_iload_n hx hb dX7_shrink_55 rfl (lv_at hl 2 rfl) ?_
        refine lv_imul hx hb dX7_shrink_56 ?_
        refine lv_iload_n hx hb dX7_shrink_57 rfl (lv_at hl 3 rfl) ?_
        refine lv_iadd hx hb dX7_shrink_58 ?_
        refine lv_iload_n hx hb dX7_shrink_59 rfl (lv_at hl 4 rfl) ?_
        obtain ⟨hi_14, hp⟩ := hp
        refine r_iast hx hb hw (h0.2.2.2.2.2.2.2.2.2.2.2.1) hi_14 dX7_shrink_60 (fun I_15 H locs eI_15 hw => ?_)
        replace hp := hp I_15 eI_15
        refine lv_aload_n hx hb dX7_shrink_61 rfl (lv_at hl 1 rfl) ?_
        refine gf_X7_44 hx hb hts hown hw (h0.1) dX7_shrink_62 ?_
        refine lv_bipush (v := 13) hx hb dX7_shrink_65 (by decide) ?_
        refine lv_iload_n hx hb dX7_shrink_67 rfl (lv_at hl 2 rfl) ?_
        refine lv_imul hx hb dX7_shrink_68 ?_
        refine lv_iload_n hx hb dX7_shrink_69 rfl (lv_at hl 3 rfl) ?_
        refine lv_iadd hx hb dX7_shrink_70 ?_
        refine lv_iload hx hb dX7_shrink_71 (lv_at hl 5 rfl) ?_
        obtain ⟨hi_16, hp⟩ := hp
        refine r_iast hx hb hw (h0.2.2.2.2.2.2.2.2.2.2.2.2.1) hi_16 dX7_shrink_73 (fun I_17 H locs eI_17 hw => ?_)
        replace hp := hp I_17 eI_17
        refine lv_iconst (v := 1) hx hb dX7_shrink_74 (by decide) ?_
        exact r_iret hx hb hr hlocks hw hp dX7_shrink_75
      · replace hp := hp.1 hc_13
        refine lv_bipush (v := (-2)) hx hb dX7_shrink_46 (by decide) ?_
        exact r_iret hx hb hr hlocks hw hp dX7_shrink_48
  · replace hp := hp.2 hc_5
    refine lv_iload hx hb dX7_shrink_18 (lv_at hl 0 rfl) ?_
    exact r_iret hx hb hr hlocks hw hp dX7_shrink_20
