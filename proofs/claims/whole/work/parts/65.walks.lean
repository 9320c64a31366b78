set_option maxHeartbeats 4000000 in
set_option maxRecDepth 100000 in
theorem c_X7_glueBehind (l : Launch) (G : GX) {Sh : SH} {a0 : Nat} {p1 : Int32} {p2 : Int32} (h0 : isModel G Sh a0) {I : MI} {L : ML} {K : Int32 → MI → ML → Prop} (hp : wp_X7_glueBehind G Sh a0 p1 p2 I L K) : CtI l yX7_glueBehind (wM yX7_glueBehind cX7_glueBehind 3 (some .int)) (rmA 1 23) G Sh [.ref a0, .int p1, .int p2] I L K := by
  refine ofA (own := RX7) (by decide) rfl (Nat.le_of_ble_eq_true rfl) ?_
  intro p e s m args below meth c ls C hw hl
  obtain ⟨hx, hb, hr, hml, hown, hts, hlocks⟩ := id C
  replace hl : lv_has ls 3 [(0, .ref a0), (1, .int p1), (2, .int p2)] := hl
  unfold wp_X7_glueBehind at hp
  refine lv_bipush (v := 13) hx hb dX7_glueBehind_0 (by decide) ?_
  refine lv_iload_n hx hb dX7_glueBehind_2 rfl (lv_at hl 1 rfl) ?_
  refine lv_imul hx hb dX7_glueBehind_3 ?_
  refine lv_iconst (v := 1) hx hb dX7_glueBehind_4 (by decide) ?_
  refine lv_iadd hx hb dX7_glueBehind_5 ?_
  refine lv_aload_n hx hb dX7_glueBehind_6 rfl (lv_at hl 0 rfl) ?_
  refine lv_iload_n hx hb dX7_glueBehind_7 rfl (lv_at hl 1 rfl) ?_
  refine lv_iload_n hx hb dX7_glueBehind_8 rfl (lv_at hl 2 rfl) ?_
  refine r_cvI (As := [.int p1, .int p2]) ⟨hx, hb, hml, hown, hts⟩ (c_X7_templateOf l G (h0) hp) (cw_X7_177 hts ⟨Nat.le_of_ble_eq_true rfl, Nat.le_of_ble_eq_true rfl⟩) hw (hw.recv (h0.1) rfl rfl) rfl rfl hl.1 (Nat.le_of_ble_eq_true rfl) ⟨Nat.zero_le _, Nat.zero_le _⟩ dX7_glueBehind_9 (fun r_1 I_2 L_3 H locs hp hw => ?_)
  refine lv_iadd hx hb dX7_glueBehind_12 ?_
  exact r_iret hx hb hr hlocks hw hp dX7_glueBehind_13
set_option maxHeartbeats 4000000 in
set_option maxRecDepth 100000 in
theorem w_X7_findWidths_316 {p : Program} {l : Launch} {e : Env} {s : State} {m : MethodId} {args : Array Value} {below : List Frame} {meth : Method} {c : Code} (C : Cx p s m args meth c cX7_findWidths none 7 RX7) {G : GX} {Sh : SH} {a0 : Nat} {p1 : Int32} {B56 : Int32 → MI → ML → Prop} {B225 : Int32 → Int32 → Int32 → MI → ML → Prop} {K : MI → ML → Prop} (h0 : isModel G Sh a0) (hB56 : ∀ (xl2 : Int32) (I : MI) (L : ML) (H : Heap) (locs : List Loc) (ls : Array Slot), B56 xl2 I L → mW G Sh s I L H locs → lv_has ls 7 [(0, .ref a0), (1, .int p1), (2, .int xl2)] → W p l e (rmA 2 45) s m args below meth c H locs 0 0 (eV below G Sh K args s) (F0 m 56 ls [])) (hB225 : ∀ (xl2 : Int32) (xl4 : Int32) (xl5 : Int32) (I : MI) (L : ML) (H : Heap) (locs : List Loc) (ls : Array Slot), B225 xl2 xl4 xl5 I L → mW G Sh s I L H locs → lv_has ls 7 [(0, .ref a0), (1, .int p1), (2, .int xl2), (4, .int xl4), (5, .int xl5)] → W p l e (rmA 2 45) s m args below meth c H locs 0 0 (eV below G Sh K args s) (F0 m 225 ls [])) : ∀ (xl2 : Int32) (xl4 : Int32) (xl5 : Int32) (xs0 : Int32) (xs1 : Int32) (I : MI) (L : ML) (H : Heap) (locs : List Loc) (ls : Array Slot), wp_X7_findWidths_316 G Sh a0 p1 B56 B225 K xl2 xl4 xl5 xs0 xs1 I L → mW G Sh s I L H locs → lv_has ls 7 [(0, .ref a0), (1, .int p1), (2, .int xl2), (4, .int xl4), (5, .int xl5)] → W p l e (rmA 2 45) s m args below meth c H locs 0 0 (eV below G Sh K args s) (F0 m 316 ls [.int xs0, .int xs1, .ref (a0 + 33)]) := by
  obtain ⟨hx, hb, hr, hml, hown, hts, hlocks⟩ := id C
  intro xl2 xl4 xl5 xs0 xs1 I L H locs ls hp hw hl
  unfold wp_X7_findWidths_316 at hp
  obtain ⟨hi_60, hp⟩ := hp
  refine r_iast hx hb hw (h0.2.2.2.2.2.2.2.2.2.2.2.2.2.2.2.2.2.2.2.2.2.2.2.2.2.2.2.2.2.2.2.2.2.1) hi_60 dX7_findWidths_316 (fun I_61 H locs eI_61 hw => ?_)
  replace hp := hp I_61 eI_61
  refine lv_aload_n hx hb dX7_findWidths_317 rfl (lv_at hl 0 rfl) ?_
  refine gf_X7_111 hx hb hts hown hw (h0.1) dX7_findWidths_318 ?_
  refine lv_iload hx hb dX7_findWidths_321 (lv_at hl 4 rfl) ?_
  refine lv_iload_n hx hb dX7_findWidths_323 rfl (lv_at hl 2 rfl) ?_
  refine lv_iconst (v := 1) hx hb dX7_findWidths_324 (by decide) ?_
  refine lv_iadd hx hb dX7_findWidths_325 ?_
  obtain ⟨hi_62, hp⟩ := hp
  refine r_iast hx hb hw (h0.2.2.2.2.2.2.2.2.2.2.2.2.2.2.2.2.2.2.2.2.2.2.2.2.2.2.2.2.2.2.2.2.2.2) hi_62 dX7_findWidths_326 (fun I_63 H locs eI_63 hw => ?_)
  replace hp := hp I_63 eI_63
  obtain ⟨x_64, ex_64⟩ : ∃ z : Int32, z = xl5 + (1 : Int32) := ⟨_, rfl⟩
  replace hp := hp x_64 ex_64
  refine lv_iinc (v := x_64) (lv' := [(5, .int x_64), (0, .ref a0), (1, .int p1), (2, .int xl2), (4, .int xl4)]) hx hb dX7_findWidths_327 hl (k := 4) rfl (by rw [ex_64]; rfl) (by decide) rfl (fun ls hl => ?_)
  refine lv_goto (tgt := 225) hx hb dX7_findWidths_330 (by decide) ?_
  exact hB225 (xl2) (xl4) (x_64) _ _ _ _ _ hp hw (lv_sub hl [1, 2, 3, 4, 0] rfl)
set_option maxHeartbeats 4000000 in
set_option maxRecDepth 100000 in
theorem w_X7_findWidths_225 {p : Program} {l : Launch} {e : Env} {s : State} {m : MethodId} {args : Array Value} {below : List Frame} {meth : Method} {c : Code} (C : Cx p s m args meth c cX7_findWidths none 7 RX7) {G : GX} {Sh : SH} {a0 : Nat} {p1 : Int32} {B56 : Int32 → MI → ML → Prop} {K : MI → ML → Prop} (h0 : isModel G Sh a0) (hB56 : ∀ (xl2 : Int32) (I : MI) (L : ML) (H : Heap) (locs : List Loc) (ls : Array Slot), B56 xl2 I L → mW G Sh s I L H locs → lv_has ls 7 [(0, .ref a0), (1, .int p1), (2, .int xl2)] → W p l e (rmA 2 45) s m args below meth c H locs 0 0 (eV below G Sh K args s) (F0 m 56 ls [])) : ∀ (n : Nat) (xl2 : Int32) (xl4 : Int32) (xl5 : Int32) (I : MI) (L : ML) (H : Heap) (locs : List Loc) (ls : Array Slot), wp_X7_findWidths_225 G Sh a0 p1 B56 K n xl2 xl4 xl5 I L → mW G Sh s I L H locs → lv_has ls 7 [(0, .ref a0), (1, .int p1), (2, .int xl2), (4, .int xl4), (5, .int xl5)] → W p l e (rmA 2 45) s m args below meth c H locs 0 0 (eV below G Sh K args s) (F0 m 225 ls []) := by
  obtain ⟨hx, hb, hr, hml, hown, hts, hlocks⟩ := id C
  intro n
  induction n with
  | zero => intro xl2 xl4 xl5 I L H locs ls hp hw hl; exact hp.elim
  | succ n hB225 =>
    intro xl2 xl4 xl5 I L H locs ls hp hw hl
    replace hp : wb_X7_findWidths_225 G Sh a0 p1 B56 K (wp_X7_findWidths_225 G Sh a0 p1 B56 K n) xl2 xl4 xl5 I L := hp
    unfold wb_X7_findWidths_225 at hp
    refine lv_iload hx hb dX7_findWidths_225 (lv_at hl 4 rfl) ?_
    refine lv_aload_n hx hb dX7_findWidths_227 rfl (lv_at hl 0 rfl) ?_
    refine gf_X7_59 hx hb hts hown hw (h0.1) dX7_findWidths_228 ?_
    refine lv_iload_n hx hb dX7_findWidths_231 rfl (lv_at hl 1 rfl) ?_
    obtain ⟨hi_44, hp⟩ := hp
    refine r_iald hx hb hw (h0.2.2.2.2.2.2.2.2.2.2.2.2.2.2.2.2.2.1) hi_44 dX7_findWidths_232 ?_
    refine lv_icmp_ge (tgt := 333) hx hb dX7_findWidths_233 (by decide) (fun hc_45 => ?_) (fun hc_45 => ?_)
    · replace hp := hp.1 hc_45
      obtain ⟨x_46, ex_46⟩ : ∃ z : Int32, z = xl2 + (1 : Int32) := ⟨_, rfl⟩
      replace hp := hp x_46 ex_46
      refine lv_iinc (v := x_46) (lv' := [(2, .int x_46), (0, .ref a0), (1, .int p1), (4, .int xl4), (5, .int xl5)]) hx hb dX7_findWidths_333 hl (k := 2) rfl (by rw [ex_46]; rfl) (by decide) rfl (fun ls hl => ?_)
      refine lv_goto (tgt := 56) hx hb dX7_findWidths_336 (by decide) ?_
      exact hB56 (x_46) _ _ _ _ _ hp hw (lv_sub hl [1, 2, 0] rfl)
    · replace hp := hp.2 hc_45
      refine lv_aload_n hx hb dX7_findWidths_236 rfl (lv_at hl 0 rfl) ?_
      refine gf_X7_65 hx hb hts hown hw (h0.1) dX7_findWidths_237 ?_
      refine lv_sipush (v := 480) hx hb dX7_findWidths_240 (by decide) ?_
      refine lv_iload_n hx hb dX7_findWidths_243 rfl (lv_at hl 1 rfl) ?_
      refine lv_imul hx hb dX7_findWidths_244 ?_
      refine lv_iload hx hb dX7_findWidths_245 (lv_at hl 4 rfl) ?_
      refine lv_iadd hx hb dX7_findWidths_247 ?_
      refine lv_topi (fun x_47 ex_47 => ?_)
      replace hp := hp x_47 ex_47
      obtain ⟨hi_48, hp⟩ := hp
      refine r_iald hx hb hw (h0.2.2.2.2.2.2.2.2.2.2.2.2.2.2.2.2.2.2.2.1) hi_48 dX7_findWidths_248 ?_
      refine lv_aload_n hx hb dX7_findWidths_249 rfl (lv_at hl 0 rfl) ?_
      refine gf_X7_68 hx hb hts hown hw (h0.1) dX7_findWidths_250 ?_
      refine lv_sipush (v := 480) hx hb dX7_findWidths_253 (by decide) ?_
      refine lv_iload_n hx hb dX7_findWidths_256 rfl (lv_at hl 1 rfl) ?_
      refine lv_imul hx hb dX7_findWidths_257 ?_
      refine lv_iload hx hb dX7_findWidths_258 (lv_at hl 4 rfl) ?_
      refine lv_iadd hx hb dX7_findWidths_260 ?_
      refine lv_topi (fun x_49 ex_49 => ?_)
      replace hp := hp x_49 ex_49
      obtain ⟨hi_50, hp⟩ := hp
      refine r_iald hx hb hw (h0.2.2.2.2.2.2.2.2.2.2.2.2.2.2.2.2.2.2.2.2.1) hi_50 dX7_findWidths_261 ?_
      refine lv_iadd hx hb dX7_findWidths_262 ?_
      refine lv_iconst (v := 1) hx hb dX7_findWidths_263 (by decide) ?_
      refine lv_isub hx hb dX7_findWidths_264 ?_
      refine lv_topi (fun x_51 ex_51 => ?_)
      replace hp := hp x_51 ex_51
      refine lv_istore (lv' := [(6, .int x_51), (0, .ref a0), (1, .int p1), (2, .int xl2), (4, .int xl4), (5, .int xl5)]) hx hb dX7_findWidths_265 hl (by decide) rfl (fun ls hl => ?_)
      refine lv_aload_n hx hb dX7_findWidths_267 rfl (lv_at hl 1 rfl) ?_
      refine gf_X7_111 hx hb hts hown hw (h0.1) dX7_findWidths_268 ?_
      refine lv_iload hx hb dX7_findWidths_271 (lv_at hl 5 rfl) ?_
      obtain ⟨hi_52, hp⟩ := hp
      refine r_iald hx hb hw (h0.2.2.2.2.2.2.2.2.2.2.2.2.2.2.2.2.2.2.2.2.2.2.2.2.2.2.2.2.2.2.2.2.2.2) hi_52 dX7_findWidths_273 ?_
      refine lv_iload_n hx hb dX7_findWidths_274 rfl (lv_at hl 3 rfl) ?_
      refine lv_icmp_ne (tgt := 327) hx hb dX7_findWidths_275 (by decide) (fun hc_53 => ?_) (fun hc_53 => ?_)
      · replace hp := hp.2 hc_53
        obtain ⟨x_54, ex_54⟩ : ∃ z : Int32, z = xl5 + (1 : Int32) := ⟨_, rfl⟩
        replace hp := hp x_54 ex_54
        refine lv_iinc (v := x_54) (lv' := [(5, .int x_54), (6, .int x_51), (0, .ref a0), (1, .int p1), (2, .int xl2), (4, .int xl4)]) hx hb dX7_findWidths_327 hl (k := 5) rfl (by rw [ex_54]; rfl) (by decide) rfl (fun ls hl => ?_)
        refine lv_goto (tgt := 225) hx hb dX7_findWidths_330 (by decide) ?_
        exact hB225 (xl2) (xl4) (x_54) _ _ _ _ _ hp hw (lv_sub hl [2, 3, 4, 5, 0] rfl)
      · replace hp := hp.1 hc_53
        refine lv_iload hx hb dX7_findWidths_278 (lv_at hl 0 rfl) ?_
        refine lv_iload_n hx hb dX7_findWidths_280 rfl (lv_at hl 3 rfl) ?_
        refine lv_icmp_le (tgt := 327) hx hb dX7_findWidths_281 (by decide) (fun hc_55 => ?_) (fun hc_55 => ?_)
        · replace hp := hp.1 hc_55
          obtain ⟨x_56, ex_56⟩ : ∃ z : Int32, z = xl5 + (1 : Int32) := ⟨_, rfl⟩
          replace hp := hp x_56 ex_56
          refine lv_iinc (v := x_56) (lv' := [(5, .int x_56), (6, .int x_51), (0, .ref a0), (1, .int p1), (2, .int xl2), (4, .int xl4)]) hx hb dX7_findWidths_327 hl (k := 5) rfl (by rw [ex_56]; rfl) (by decide) rfl (fun ls hl => ?_)
          refine lv_goto (tgt := 225) hx hb dX7_findWidths_330 (by decide) ?_
          exact hB225 (xl2) (xl4) (x_56) _ _ _ _ _ hp hw (lv_sub hl [2, 3, 4, 5, 0] rfl)
        · replace hp := hp.2 hc_55
          refine lv_aload_n hx hb dX7_findWidths_284 rfl (lv_at hl 1 rfl) ?_
          refine gf_X7_108 hx hb hts hown hw (h0.1) dX7_findWidths_285 ?_
          refine lv_iload hx hb dX7_findWidths_288 (lv_at hl 5 rfl) ?_
          refine lv_aload_n hx hb dX7_findWidths_290 rfl (lv_at hl 1 rfl) ?_
          refine gf_X7_108 hx hb hts hown hw (h0.1) dX7_findWidths_291 ?_
          refine lv_iload hx hb dX7_findWidths_294 (lv_at hl 5 rfl) ?_
          obtain ⟨hi_57, hp⟩ := hp
          refine r_iald hx hb hw (h0.2.2.2.2.2.2.2.2.2.2.2.2.2.2.2.2.2.2.2.2.2.2.2.2.2.2.2.2.2.2.2.2.2.1) hi_57 dX7_findWidths_296 ?_
          refine lv_iload hx hb dX7_findWidths_297 (lv_at hl 4 rfl) ?_
          refine lv_icmp_le (tgt := 315) hx hb dX7_findWidths_299 (by decide) (fun hc_58 => ?_) (fun hc_58 => ?_)
          · replace hp := hp.1 hc_58
            refine lv_iconst (v := 0) hx hb dX7_findWidths_315 (by decide) ?_
            exact w_X7_findWidths_316 C h0 hB56 hB225 (xl2) (xl4) (xl5) ((0 : Int32)) (xl5) _ _ _ _ _ hp hw (lv_sub hl [1, 2, 3, 4, 5] rfl)
          · replace hp := hp.2 hc_58
            refine lv_aload_n hx hb dX7_findWidths_302 rfl (lv_at hl 1 rfl) ?_
            refine gf_X7_108 hx hb hts hown hw (h0.1) dX7_findWidths_303 ?_
            refine lv_iload hx hb dX7_findWidths_306 (lv_at hl 5 rfl) ?_
            obtain ⟨hi_59, hp⟩ := hp
            refine r_iald hx hb hw (h0.2.2.2.2.2.2.2.2.2.2.2.2.2.2.2.2.2.2.2.2.2.2.2.2.2.2.2.2.2.2.2.2.2.1) hi_59 dX7_findWidths_308 ?_
            refine lv_iload hx hb dX7_findWidths_309 (lv_at hl 4 rfl) ?_
            refine lv_isub hx hb dX7_findWidths_311 ?_
            refine lv_goto (tgt := 316) hx hb dX7_findWidths_312 (by decide) ?_
            exact w_X7_findWidths_316 C h0 hB56 hB225 (xl2) (xl4) (xl5) (((I (a0 + 33) (xl5).toNatClampNeg) - xl4)) (xl5) _ _ _ _ _ hp hw (lv_sub hl [1, 2, 3, 4, 5] rfl)
set_option maxHeartbeats 4000000 in
set_option maxRecDepth 100000 in
theorem w_X7_findWidths_198 {p : Program} {l : Launch} {e : Env} {s : State} {m : MethodId} {args : Array Value} {below : List Frame} {meth : Method} {c : Code} (C : Cx p s m args meth c cX7_findWidths none 7 RX7) {G : GX} {Sh : SH} {a0 : Nat} {p1 : Int32} {B56 : Int32 → MI → ML → Prop} {K : MI → ML → Prop} (h0 : isModel G Sh a0) (hB56 : ∀ (xl2 : Int32) (I : MI) (L : ML) (H : Heap) (locs : List Loc) (ls : Array Slot), B56 xl2 I L → mW G Sh s I L H locs → lv_has ls 7 [(0, .ref a0), (1, .int p1), (2, .int xl2)] → W p l e (rmA 2 45) s m args below meth c H locs 0 0 (eV below G Sh K args s) (F0 m 56 ls [])) : ∀ (xl2 : Int32) (xl3 : Int32) (xs0 : Int32) (xs1 : Int32) (I : MI) (L : ML) (H : Heap) (locs : List Loc) (ls : Array Slot), wp_X7_findWidths_198 G Sh a0 p1 B56 K xl2 xl3 xs0 xs1 I L → mW G Sh s I L H locs → lv_has ls 7 [(0, .ref a0), (1, .int p1), (2, .int xl2), (3, .int xl3)] → W p l e (rmA 2 45) s m args below meth c H locs 0 0 (eV below G Sh K args s) (F0 m 198 ls [.int xs0, .int xs1, .ref (a0 + 26)]) := by
  obtain ⟨hx, hb, hr, hml, hown, hts, hlocks⟩ := id C
  intro xl2 xl3 xs0 xs1 I L H locs ls hp hw hl
  unfold wp_X7_findWidths_198 at hp
  obtain ⟨hi_36, hp⟩ := hp
  refine r_iast hx hb hw (h0.2.2.2.2.2.2.2.2.2.2.2.2.2.2.2.2.2.2.2.2.2.2.2.2.2.2.1) hi_36 dX7_findWidths_198 (fun I_37 H locs eI_37 hw => ?_)
  replace hp := hp I_37 eI_37
  refine lv_iload_n hx hb dX7_findWidths_199 rfl (lv_at hl 3 rfl) ?_
  refine lv_if_ge (tgt := 207) hx hb dX7_findWidths_200 (by decide) (fun hc_38 => ?_) (fun hc_38 => ?_)
  · replace hp := hp.1 hc_38
    refine lv_iload_n hx hb dX7_findWidths_207 rfl (lv_at hl 3 rfl) ?_
    refine lv_aload_n hx hb dX7_findWidths_208 rfl (lv_at hl 0 rfl) ?_
    refine gf_X7_32 hx hb hts hown hw (h0.1) dX7_findWidths_209 ?_
    refine lv_aload_n hx hb dX7_findWidths_212 rfl (lv_at hl 0 rfl) ?_
    refine lv_iload_n hx hb dX7_findWidths_213 rfl (lv_at hl 1 rfl) ?_
    refine lv_iload_n hx hb dX7_findWidths_214 rfl (lv_at hl 2 rfl) ?_
    refine r_cvI (As := [.int p1, .int xl2]) ⟨hx, hb, hml, hown, hts⟩ (c_X7_glueBehind l G (h0) hp) (cw_X7_184 hts ⟨Nat.le_of_ble_eq_true rfl, Nat.le_of_ble_eq_true rfl⟩) hw (hw.recv (h0.1) rfl rfl) rfl rfl hl.1 (Nat.le_of_ble_eq_true rfl) ⟨Nat.zero_le _, Nat.zero_le _⟩ dX7_findWidths_215 (fun r_39 I_40 L_41 H locs hp hw => ?_)
    obtain ⟨hi_42, hp⟩ := hp
    refine r_iald hx hb hw (h0.2.2.2.2.2.2.2.2.1) hi_42 dX7_findWidths_218 ?_
    refine lv_iadd hx hb dX7_findWidths_219 ?_
    refine lv_topi (fun x_43 ex_43 => ?_)
    replace hp := hp x_43 ex_43
    refine lv_istore (lv' := [(4, .int x_43), (0, .ref a0), (1, .int p1), (2, .int xl2), (3, .int xl3)]) hx hb dX7_findWidths_220 hl (by decide) rfl (fun ls hl => ?_)
    refine lv_iconst (v := 0) hx hb dX7_findWidths_222 (by decide) ?_
    refine lv_istore (lv' := [(5, .int (0 : Int32)), (4, .int x_43), (0, .ref a0), (1, .int p1), (2, .int xl2), (3, .int xl3)]) hx hb dX7_findWidths_223 hl (by decide) rfl (fun ls hl => ?_)
    obtain ⟨n, hp⟩ := hp
    exact w_X7_findWidths_225 C h0 hB56 n (xl2) (x_43) ((0 : Int32)) _ _ _ _ _ hp hw (lv_sub hl [2, 3, 4, 1, 0] rfl)
  · replace hp := hp.2 hc_38
    refine lv_iconst (v := 0) hx hb dX7_findWidths_203 (by decide) ?_
    refine lv_goto (tgt := 220) hx hb dX7_findWidths_204 (by decide) ?_
    refine lv_istore (lv' := [(4, .int (0 : Int32)), (0, .ref a0), (1, .int p1), (2, .int xl2), (3, .int xl3)]) hx hb dX7_findWidths_220 hl (by decide) rfl (fun ls hl => ?_)
    refine lv_iconst (v := 0) hx hb dX7_findWidths_222 (by decide) ?_
    refine lv_istore (lv' := [(5, .int (0 : Int32)), (4, .int (0 : Int32)), (0, .ref a0), (1, .int p1), (2, .int xl2), (3, .int xl3)]) hx hb dX7_findWidths_223 hl (by decide) rfl (fun ls hl => ?_)
    obtain ⟨n, hp⟩ := hp
    exact w_X7_findWidths_225 C h0 hB56 n (xl2) ((0 : Int32)) ((0 : Int32)) _ _ _ _ _ hp hw (lv_sub hl [2, 3, 4, 1, 0] rfl)
set_option maxHeartbeats 4000000 in
set_option maxRecDepth 100000 in
theorem w_X7_findWidths_178 {p : Program} {l : Launch} {e : Env} {s : State} {m : MethodId} {args : Array Value} {below : List Frame} {meth : Method} {c : Code} (C : Cx p s m args meth c cX7_findWidths none 7 RX7) {G : GX} {Sh : SH} {a0 : Nat} {p1 : Int32} {B56 : Int32 → MI → ML → Prop} {K : MI → ML → Prop} (h0 : isModel G Sh a0) (hB56 : ∀ (xl2 : Int32) (I : MI) (L : ML) (H : Heap) (locs : List Loc) (ls : Array Slot), B56 xl2 I L → mW G Sh s I L H locs → lv_has ls 7 [(0, .ref a0), (1, .int p1), (2, .int xl2)] → W p l e (rmA 2 45) s m args below meth c H locs 0 0 (eV below G Sh K args s) (F0 m 56 ls [])) : ∀ (xl2 : Int32) (xl3 : Int32) (xs0 : Int32) (xs1 : Int32) (I : MI) (L : ML) (H : Heap) (locs : List Loc) (ls : Array Slot), wp_X7_findWidths_178 G Sh a0 p1 B56 K xl2 xl3 xs0 xs1 I L → mW G Sh s I L H locs → lv_has ls 7 [(0, .ref a0), (1, .int p1), (2, .int xl2), (3, .int xl3)] → W p l e (rmA 2 45) s m args below meth c H locs 0 0 (eV below G Sh K args s) (F0 m 178 ls [.int xs0, .int xs1, .ref (a0 + 27)]) := by
  obtain ⟨hx, hb, hr, hml, hown, hts, hlocks⟩ := id C
  intro xl2 xl3 xs0 xs1 I L H locs ls hp hw hl
  unfold wp_X7_findWidths_178 at hp
  obtain ⟨hi_33, hp⟩ := hp
  refine r_zast hx hb hw (h0.2.2.2.2.2.2.2.2.2.2.2.2.2.2.2.2.2.2.2.2.2.2.2.2.2.2.2.1) hi_33 rfl dX7_findWidths_178 (fun I_34 H locs eI_34 hw => ?_)
  replace hp := hp I_34 eI_34
  refine lv_aload_n hx hb dX7_findWidths_179 rfl (lv_at hl 0 rfl) ?_
  refine gf_X7_86 hx hb hts hown hw (h0.1) dX7_findWidths_180 ?_
  refine lv_bipush (v := 24) hx hb dX7_findWidths_183 (by decide) ?_
  refine lv_iload_n hx hb dX7_findWidths_185 rfl (lv_at hl 1 rfl) ?_
  refine lv_imul hx hb dX7_findWidths_186 ?_
  refine lv_iload_n hx hb dX7_findWidths_187 rfl (lv_at hl 2 rfl) ?_
  refine lv_iadd hx hb dX7_findWidths_188 ?_
  refine lv_iload_n hx hb dX7_findWidths_189 rfl (lv_at hl 3 rfl) ?_
  refine lv_if_ge (tgt := 197) hx hb dX7_findWidths_190 (by decide) (fun hc_35 => ?_) (fun hc_35 => ?_)
  · replace hp := hp.1 hc_35
    refine lv_iload_n hx hb dX7_findWidths_197 rfl (lv_at hl 3 rfl) ?_
    exact w_X7_findWidths_198 C h0 hB56 (xl2) (xl3) (xl3) ((((24 : Int32) * p1) + xl2)) _ _ _ _ _ hp hw (lv_sub hl [0, 1, 2, 3] rfl)
  · replace hp := hp.2 hc_35
    refine lv_iconst (v := 0) hx hb dX7_findWidths_193 (by decide) ?_
    refine lv_goto (tgt := 198) hx hb dX7_findWidths_194 (by decide) ?_
    exact w_X7_findWidths_198 C h0 hB56 (xl2) (xl3) ((0 : Int32)) ((((24 : Int32) * p1) + xl2)) _ _ _ _ _ hp hw (lv_sub hl [0, 1, 2, 3] rfl)
set_option maxHeartbeats 4000000 in
set_option maxRecDepth 100000 in
theorem w_X7_findWidths_71 {p : Program} {l : Launch} {e : Env} {s : State} {m : MethodId} {args : Array Value} {below : List Frame} {meth : Method} {c : Code} (C : Cx p s m args meth c cX7_findWidths none 7 RX7) {G : GX} {Sh : SH} {a0 : Nat} {p1 : Int32} {B56 : Int32 → MI → ML → Prop} {K : MI → ML → Prop} (h0 : isModel G Sh a0) (hB56 : ∀ (xl2 : Int32) (I : MI) (L : ML) (H : Heap) (locs : List Loc) (ls : Array Slot), B56 xl2 I L → mW G Sh s I L H locs → lv_has ls 7 [(0, .ref a0), (1, .int p1), (2, .int xl2)] → W p l e (rmA 2 45) s m args below meth c H locs 0 0 (eV below G Sh K args s) (F0 m 56 ls [])) : ∀ (n : Nat) (xl2 : Int32) (xl3 : Int32) (xl4 : Int32) (I : MI) (L : ML) (H : Heap) (locs : List Loc) (ls : Array Slot), wp_X7_findWidths_71 G Sh a0 p1 B56 K n xl2 xl3 xl4 I L → mW G Sh s I L H locs → lv_has ls 7 [(0, .ref a0), (1, .int p1), (2, .int xl2), (3, .int xl3), (4, .int xl4)] → W p l e (rmA 2 45) s m args below meth c H locs 0 0 (eV below G Sh K args s) (F0 m 71 ls []) := by
  obtain ⟨hx, hb, hr, hml, hown, hts, hlocks⟩ := id C
  intro n
  induction n with
  | zero => intro xl2 xl3 xl4 I L H locs ls hp hw hl; exact hp.elim
  | succ n hB71 =>
    intro xl2 xl3 xl4 I L H locs ls hp hw hl
    replace hp : wb_X7_findWidths_71 G Sh a0 p1 B56 K (wp_X7_findWidths_71 G Sh a0 p1 B56 K n) xl2 xl3 xl4 I L := hp
    unfold wb_X7_findWidths_71 at hp
    refine lv_iload hx hb dX7_findWidths_71 (lv_at hl 4 rfl) ?_
    refine lv_aload_n hx hb dX7_findWidths_73 rfl (lv_at hl 0 rfl) ?_
    refine gf_X7_59 hx hb hts hown hw (h0.1) dX7_findWidths_74 ?_
    refine lv_iload_n hx hb dX7_findWidths_77 rfl (lv_at hl 1 rfl) ?_
    obtain ⟨hi_14, hp⟩ := hp
    refine r_iald hx hb hw (h0.2.2.2.2.2.2.2.2.2.2.2.2.2.2.2.2.2.1) hi_14 dX7_findWidths_78 ?_
    refine lv_icmp_ge (tgt := 159) hx hb dX7_findWidths_79 (by decide) (fun hc_15 => ?_) (fun hc_15 => ?_)
    · replace hp := hp.1 hc_15
      refine lv_aload_n hx hb dX7_findWidths_159 rfl (lv_at hl 0 rfl) ?_
      refine gf_X7_89 hx hb hts hown hw (h0.1) dX7_findWidths_160 ?_
      refine lv_bipush (v := 24) hx hb dX7_findWidths_163 (by decide) ?_
      refine lv_iload_n hx hb dX7_findWidths_165 rfl (lv_at hl 1 rfl) ?_
      refine lv_imul hx hb dX7_findWidths_166 ?_
      refine lv_iload_n hx hb dX7_findWidths_167 rfl (lv_at hl 2 rfl) ?_
      refine lv_iadd hx hb dX7_findWidths_168 ?_
      refine lv_iload_n hx hb dX7_findWidths_169 rfl (lv_at hl 3 rfl) ?_
      refine lv_if_ge (tgt := 177) hx hb dX7_findWidths_170 (by decide) (fun hc_16 => ?_) (fun hc_16 => ?_)
      · replace hp := hp.1 hc_16
        refine lv_iconst (v := 0) hx hb dX7_findWidths_177 (by decide) ?_
        exact w_X7_findWidths_178 C h0 hB56 (xl2) (xl3) ((0 : Int32)) ((((24 : Int32) * p1) + xl2)) _ _ _ _ _ hp hw (lv_sub hl [0, 1, 2, 3] rfl)
      · replace hp := hp.2 hc_16
        refine lv_iconst (v := 1) hx hb dX7_findWidths_173 (by decide) ?_
        refine lv_goto (tgt := 178) hx hb dX7_findWidths_174 (by decide) ?_
        exact w_X7_findWidths_178 C h0 hB56 (xl2) (xl3) ((1 : Int32)) ((((24 : Int32) * p1) + xl2)) _ _ _ _ _ hp hw (lv_sub hl [0, 1, 2, 3] rfl)
    · replace hp := hp.2 hc_15
      refine lv_aload_n hx hb dX7_findWidths_82 rfl (lv_at hl 0 rfl) ?_
      refine gf_X7_65 hx hb hts hown hw (h0.1) dX7_findWidths_83 ?_
      refine lv_sipush (v := 480) hx hb dX7_findWidths_86 (by decide) ?_
      refine lv_iload_n hx hb dX7_findWidths_89 rfl (lv_at hl 1 rfl) ?_
      refine lv_imul hx hb dX7_findWidths_90 ?_
      refine lv_iload hx hb dX7_findWidths_91 (lv_at hl 4 rfl) ?_
      refine lv_iadd hx hb dX7_findWidths_93 ?_
      refine lv_topi (fun x_17 ex_17 => ?_)
      replace hp := hp x_17 ex_17
      obtain ⟨hi_18, hp⟩ := hp
      refine r_iald hx hb hw (h0.2.2.2.2.2.2.2.2.2.2.2.2.2.2.2.2.2.2.2.1) hi_18 dX7_findWidths_94 ?_
      refine lv_aload_n hx hb dX7_findWidths_95 rfl (lv_at hl 0 rfl) ?_
      refine gf_X7_68 hx hb hts hown hw (h0.1) dX7_findWidths_96 ?_
      refine lv_sipush (v := 480) hx hb dX7_findWidths_99 (by decide) ?_
      refine lv_iload_n hx hb dX7_findWidths_102 rfl (lv_at hl 1 rfl) ?_
      refine lv_imul hx hb dX7_findWidths_103 ?_
      refine lv_iload hx hb dX7_findWidths_104 (lv_at hl 4 rfl) ?_
      refine lv_iadd hx hb dX7_findWidths_106 ?_
      refine lv_topi (fun x_19 ex_19 => ?_)
      replace hp := hp x_19 ex_19
      obtain ⟨hi_20, hp⟩ := hp
      refine r_iald hx hb hw (h0.2.2.2.2.2.2.2.2.2.2.2.2.2.2.2.2.2.2.2.2.1) hi_20 dX7_findWidths_107 ?_
      refine lv_iadd hx hb dX7_findWidths_108 ?_
      refine lv_iconst (v := 1) hx hb dX7_findWidths_109 (by decide) ?_
      refine lv_isub hx hb dX7_findWidths_110 ?_
      refine lv_topi (fun x_21 ex_21 => ?_)
      replace hp := hp x_21 ex_21
      refine lv_istore (lv' := [(5, .int x_21), (0, .ref a0), (1, .int p1), (2, .int xl2), (3, .int xl3), (4, .int xl4)]) hx hb dX7_findWidths_111 hl (by decide) rfl (fun ls hl => ?_)
      refine lv_aload_n hx hb dX7_findWidths_113 rfl (lv_at hl 1 rfl) ?_
      refine gf_X7_111 hx hb hts hown hw (h0.1) dX7_findWidths_114 ?_
      refine lv_iload hx hb dX7_findWidths_117 (lv_at hl 5 rfl) ?_
      obtain ⟨hi_22, hp⟩ := hp
      refine r_iald hx hb hw (h0.2.2.2.2.2.2.2.2.2.2.2.2.2.2.2.2.2.2.2.2.2.2.2.2.2.2.2.2.2.2.2.2.2.2) hi_22 dX7_findWidths_119 ?_
      refine lv_iload_n hx hb dX7_findWidths_120 rfl (lv_at hl 3 rfl) ?_
      refine lv_icmp_ne (tgt := 151) hx hb dX7_findWidths_121 (by decide) (fun hc_23 => ?_) (fun hc_23 => ?_)
      · replace hp := hp.2 hc_23
        refine lv_iload_n hx hb dX7_findWidths_151 rfl (lv_at hl 4 rfl) ?_
        refine lv_istore_n (lv' := [(3, .int xl3), (5, .int x_21), (0, .ref a0), (1, .int p1), (2, .int xl2), (4, .int xl4)]) hx hb dX7_findWidths_152 rfl hl (by decide) rfl (fun ls hl => ?_)
        obtain ⟨x_24, ex_24⟩ : ∃ z : Int32, z = xl4 + (1 : Int32) := ⟨_, rfl⟩
        replace hp := hp x_24 ex_24
        refine lv_iinc (v := x_24) (lv' := [(4, .int x_24), (3, .int xl3), (5, .int x_21), (0, .ref a0), (1, .int p1), (2, .int xl2)]) hx hb dX7_findWidths_153 hl (k := 5) rfl (by rw [ex_24]; rfl) (by decide) rfl (fun ls hl => ?_)
        refine lv_goto (tgt := 71) hx hb dX7_findWidths_156 (by decide) ?_
        exact hB71 (xl2) (xl3) (x_24) _ _ _ _ _ hp hw (lv_sub hl [3, 4, 5, 1, 0] rfl)
      · replace hp := hp.1 hc_23
        refine lv_iload hx hb dX7_findWidths_124 (lv_at hl 0 rfl) ?_
        refine lv_iload_n hx hb dX7_findWidths_126 rfl (lv_at hl 3 rfl) ?_
        refine lv_icmp_ne (tgt := 151) hx hb dX7_findWidths_127 (by decide) (fun hc_25 => ?_) (fun hc_25 => ?_)
        · replace hp := hp.2 hc_25
          refine lv_iload_n hx hb dX7_findWidths_151 rfl (lv_at hl 4 rfl) ?_
          refine lv_istore_n (lv' := [(3, .int xl3), (5, .int x_21), (0, .ref a0), (1, .int p1), (2, .int xl2), (4, .int xl4)]) hx hb dX7_findWidths_152 rfl hl (by decide) rfl (fun ls hl => ?_)
          obtain ⟨x_26, ex_26⟩ : ∃ z : Int32, z = xl4 + (1 : Int32) := ⟨_, rfl⟩
          replace hp := hp x_26 ex_26
          refine lv_iinc (v := x_26) (lv' := [(4, .int x_26), (3, .int xl3), (5, .int x_21), (0, .ref a0), (1, .int p1), (2, .int xl2)]) hx hb dX7_findWidths_153 hl (k := 5) rfl (by rw [ex_26]; rfl) (by decide) rfl (fun ls hl => ?_)
          refine lv_goto (tgt := 71) hx hb dX7_findWidths_156 (by decide) ?_
          exact hB71 (xl2) (xl3) (x_26) _ _ _ _ _ hp hw (lv_sub hl [3, 4, 5, 1, 0] rfl)
        · replace hp := hp.1 hc_25
          refine lv_aload_n hx hb dX7_findWidths_130 rfl (lv_at hl 1 rfl) ?_
          refine gf_X7_108 hx hb hts hown hw (h0.1) dX7_findWidths_131 ?_
          refine lv_iload hx hb dX7_findWidths_134 (lv_at hl 5 rfl) ?_
          obtain ⟨hi_27, hp⟩ := hp
          refine r_iald hx hb hw (h0.2.2.2.2.2.2.2.2.2.2.2.2.2.2.2.2.2.2.2.2.2.2.2.2.2.2.2.2.2.2.2.2.2.1) hi_27 dX7_findWidths_136 ?_
          refine lv_iload_n hx hb dX7_findWidths_137 rfl (lv_at hl 4 rfl) ?_
          refine lv_icmp_le (tgt := 151) hx hb dX7_findWidths_138 (by decide) (fun hc_28 => ?_) (fun hc_28 => ?_)
          · replace hp := hp.1 hc_28
            refine lv_iload_n hx hb dX7_findWidths_151 rfl (lv_at hl 4 rfl) ?_
            refine lv_istore_n (lv' := [(3, .int xl3), (5, .int x_21), (0, .ref a0), (1, .int p1), (2, .int xl2), (4, .int xl4)]) hx hb dX7_findWidths_152 rfl hl (by decide) rfl (fun ls hl => ?_)
            obtain ⟨x_29, ex_29⟩ : ∃ z : Int32, z = xl4 + (1 : Int32) := ⟨_, rfl⟩
            replace hp := hp x_29 ex_29
            refine lv_iinc (v := x_29) (lv' := [(4, .int x_29), (3, .int xl3), (5, .int x_21), (0, .ref a0), (1, .int p1), (2, .int xl2)]) hx hb dX7_findWidths_153 hl (k := 5) rfl (by rw [ex_29]; rfl) (by decide) rfl (fun ls hl => ?_)
            refine lv_goto (tgt := 71) hx hb dX7_findWidths_156 (by decide) ?_
            exact hB71 (xl2) (xl3) (x_29) _ _ _ _ _ hp hw (lv_sub hl [3, 4, 5, 1, 0] rfl)
          · replace hp := hp.2 hc_28
            refine lv_aload_n hx hb dX7_findWidths_141 rfl (lv_at hl 1 rfl) ?_
            refine gf_X7_108 hx hb hts hown hw (h0.1) dX7_findWidths_142 ?_
            refine lv_iload hx hb dX7_findWidths_145 (lv_at hl 5 rfl) ?_
            obtain ⟨hi_30, hp⟩ := hp
            refine r_iald hx hb hw (h0.2.2.2.2.2.2.2.2.2.2.2.2.2.2.2.2.2.2.2.2.2.2.2.2.2.2.2.2.2.2.2.2.2.1) hi_30 dX7_findWidths_147 ?_
            refine lv_goto (tgt := 152) hx hb dX7_findWidths_148 (by decide) ?_
            refine lv_topi (fun x_31 ex_31 => ?_)
            replace hp := hp x_31 ex_31
            refine lv_istore_n (lv' := [(3, .int x_31), (5, .int x_21), (0, .ref a0), (1, .int p1), (2, .int xl2), (4, .int xl4)]) hx hb dX7_findWidths_152 rfl hl (by decide) rfl (fun ls hl => ?_)
            obtain ⟨x_32, ex_32⟩ : ∃ z : Int32, z = xl4 + (1 : Int32) := ⟨_, rfl⟩
            replace hp := hp x_32 ex_32
            refine lv_iinc (v := x_32) (lv' := [(4, .int x_32), (3, .int x_31), (5, .int x_21), (0, .ref a0), (1, .int p1), (2, .int xl2)]) hx hb dX7_findWidths_153 hl (k := 5) rfl (by rw [ex_32]; rfl) (by decide) rfl (fun ls hl => ?_)
            refine lv_goto (tgt := 71) hx hb dX7_findWidths_156 (by decide) ?_
            exact hB71 (xl2) (x_31) (x_32) _ _ _ _ _ hp hw (lv_sub hl [3, 4, 5, 1, 0] rfl)
set_option maxHeartbeats 4000000 in
set_option maxRecDepth 100000 in
theorem w_X7_findWidths_56 {p : Program} {l : Launch} {e : Env} {s : State} {m : MethodId} {args : Array Value} {below : List Frame} {meth : Method} {c : Code} (C : Cx p s m args meth c cX7_findWidths none 7 RX7) {G : GX} {Sh : SH} {a0 : Nat} {p1 : Int32} {K : MI → ML → Prop} (h0 : isModel G Sh a0) : ∀ (n : Nat) (xl2 : Int32) (I : MI) (L : ML) (H : Heap) (locs : List Loc) (ls : Array Slot), wp_X7_findWidths_56 G Sh a0 p1 K n xl2 I L → mW G Sh s I L H locs → lv_has ls 7 [(0, .ref a0), (1, .int p1), (2, .int xl2)] → W p l e (rmA 2 45) s m args below meth c H locs 0 0 (eV below G Sh K args s) (F0 m 56 ls []) := by
  obtain ⟨hx, hb, hr, hml, hown, hts, hlocks⟩ := id C
  intro n
  induction n with
  | zero => intro xl2 I L H locs ls hp hw hl; exact hp.elim
  | succ n hB56 =>
    intro xl2 I L H locs ls hp hw hl
    replace hp : wb_X7_findWidths_56 G Sh a0 p1 K (wp_X7_findWidths_56 G Sh a0 p1 K n) xl2 I L := hp
    unfold wb_X7_findWidths_56 at hp
    refine lv_iload_n hx hb dX7_findWidths_56 rfl (lv_at hl 2 rfl) ?_
    refine lv_aload_n hx hb dX7_findWidths_57 rfl (lv_at hl 0 rfl) ?_
    refine gf_X7_83 hx hb hts hown hw (h0.1) dX7_findWidths_58 ?_
    refine lv_iload_n hx hb dX7_findWidths_61 rfl (lv_at hl 1 rfl) ?_
    obtain ⟨hi_12, hp⟩ := hp
    refine r_iald hx hb hw (h0.2.2.2.2.2.2.2.2.2.2.2.2.2.2.2.2.2.2.2.2.2.2.2.2.2.1) hi_12 dX7_findWidths_62 ?_
    refine lv_icmp_ge (tgt := 339) hx hb dX7_findWidths_63 (by decide) (fun hc_13 => ?_) (fun hc_13 => ?_)
    · replace hp := hp.1 hc_13
      exact r_vret hx hb hr hlocks hw hp dX7_findWidths_339
    · replace hp := hp.2 hc_13
      refine lv_iconst (v := (-1)) hx hb dX7_findWidths_66 (by decide) ?_
      refine lv_istore_n (lv' := [(3, .int (-1 : Int32)), (0, .ref a0), (1, .int p1), (2, .int xl2)]) hx hb dX7_findWidths_67 rfl hl (by decide) rfl (fun ls hl => ?_)
      refine lv_iconst (v := 0) hx hb dX7_findWidths_68 (by decide) ?_
      refine lv_istore (lv' := [(4, .int (0 : Int32)), (3, .int (-1 : Int32)), (0, .ref a0), (1, .int p1), (2, .int xl2)]) hx hb dX7_findWidths_69 hl (by decide) rfl (fun ls hl => ?_)
      obtain ⟨n, hp⟩ := hp
      exact w_X7_findWidths_71 C h0 hB56 n (xl2) ((-1 : Int32)) ((0 : Int32)) _ _ _ _ _ hp hw (lv_sub hl [2, 3, 4, 1, 0] rfl)
set_option maxHeartbeats 4000000 in
set_option maxRecDepth 100000 in
theorem w_X7_findWidths_2 {p : Program} {l : Launch} {e : Env} {s : State} {m : MethodId} {args : Array Value} {below : List Frame} {meth : Method} {c : Code} (C : Cx p s m args meth c cX7_findWidths none 7 RX7) {G : GX} {Sh : SH} {a0 : Nat} {p1 : Int32} {K : MI → ML → Prop} (h0 : isModel G Sh a0) : ∀ (n : Nat) (xl2 : Int32) (I : MI) (L : ML) (H : Heap) (locs : List Loc) (ls : Array Slot), wp_X7_findWidths_2 G Sh a0 p1 K n xl2 I L → mW G Sh s I L H locs → lv_has ls 7 [(0, .ref a0), (1, .int p1), (2, .int xl2)] → W p l e (rmA 2 45) s m args below meth c H locs 0 0 (eV below G Sh K args s) (F0 m 2 ls []) := by
  obtain ⟨hx, hb, hr, hml, hown, hts, hlocks⟩ := id C
  intro n
  induction n with
  | zero => intro xl2 I L H locs ls hp hw hl; exact hp.elim
  | succ n hB2 =>
    intro xl2 I L H locs ls hp hw hl
    replace hp : wb_X7_findWidths_2 G Sh a0 p1 K (wp_X7_findWidths_2 G Sh a0 p1 K n) xl2 I L := hp
    unfold wb_X7_findWidths_2 at hp
    refine lv_iload_n hx hb dX7_findWidths_2 rfl (lv_at hl 2 rfl) ?_
    refine lv_aload_n hx hb dX7_findWidths_3 rfl (lv_at hl 0 rfl) ?_
    refine gf_X7_59 hx hb hts hown hw (h0.1) dX7_findWidths_4 ?_
    refine lv_iload_n hx hb dX7_findWidths_7 rfl (lv_at hl 1 rfl) ?_
    obtain ⟨hi_1, hp⟩ := hp
    refine r_iald hx hb hw (h0.2.2.2.2.2.2.2.2.2.2.2.2.2.2.2.2.2.1) hi_1 dX7_findWidths_8 ?_
    refine lv_icmp_ge (tgt := 54) hx hb dX7_findWidths_9 (by decide) (fun hc_2 => ?_) (fun hc_2 => ?_)
    · replace hp := hp.1 hc_2
      refine lv_iconst (v := 0) hx hb dX7_findWidths_54 (by decide) ?_
      refine lv_istore_n (lv' := [(2, .int (0 : Int32)), (0, .ref a0), (1, .int p1)]) hx hb dX7_findWidths_55 rfl hl (by decide) rfl (fun ls hl => ?_)
      obtain ⟨n, hp⟩ := hp
      exact w_X7_findWidths_56 C h0 n ((0 : Int32)) _ _ _ _ _ hp hw (lv_sub hl [1, 2, 0] rfl)
    · replace hp := hp.2 hc_2
      refine lv_aload_n hx hb dX7_findWidths_12 rfl (lv_at hl 0 rfl) ?_
      refine gf_X7_108 hx hb hts hown hw (h0.1) dX7_findWidths_13 ?_
      refine lv_iload_n hx hb dX7_findWidths_16 rfl (lv_at hl 2 rfl) ?_
      refine lv_aload_n hx hb dX7_findWidths_17 rfl (lv_at hl 0 rfl) ?_
      refine gf_X7_62 hx hb hts hown hw (h0.1) dX7_findWidths_18 ?_
      refine lv_sipush (v := 480) hx hb dX7_findWidths_21 (by decide) ?_
      refine lv_iload_n hx hb dX7_findWidths_24 rfl (lv_at hl 1 rfl) ?_
      refine lv_imul hx hb dX7_findWidths_25 ?_
      refine lv_iload_n hx hb dX7_findWidths_26 rfl (lv_at hl 2 rfl) ?_
      refine lv_iadd hx hb dX7_findWidths_27 ?_
      refine lv_topi (fun x_3 ex_3 => ?_)
      replace hp := hp x_3 ex_3
      obtain ⟨hi_4, hp⟩ := hp
      refine r_iald hx hb hw (h0.2.2.2.2.2.2.2.2.2.2.2.2.2.2.2.2.2.2.1) hi_4 dX7_findWidths_28 ?_
      obtain ⟨hi_5, hp⟩ := hp
      refine r_iast hx hb hw (h0.2.2.2.2.2.2.2.2.2.2.2.2.2.2.2.2.2.2.2.2.2.2.2.2.2.2.2.2.2.2.2.2.2.1) hi_5 dX7_findWidths_29 (fun I_6 H locs eI_6 hw => ?_)
      replace hp := hp I_6 eI_6
      refine lv_aload_n hx hb dX7_findWidths_30 rfl (lv_at hl 0 rfl) ?_
      refine gf_X7_111 hx hb hts hown hw (h0.1) dX7_findWidths_31 ?_
      refine lv_iload_n hx hb dX7_findWidths_34 rfl (lv_at hl 2 rfl) ?_
      refine lv_aload_n hx hb dX7_findWidths_35 rfl (lv_at hl 0 rfl) ?_
      refine gf_X7_65 hx hb hts hown hw (h0.1) dX7_findWidths_36 ?_
      refine lv_sipush (v := 480) hx hb dX7_findWidths_39 (by decide) ?_
      refine lv_iload_n hx hb dX7_findWidths_42 rfl (lv_at hl 1 rfl) ?_
      refine lv_imul hx hb dX7_findWidths_43 ?_
      refine lv_iload_n hx hb dX7_findWidths_44 rfl (lv_at hl 2 rfl) ?_
      refine lv_iadd hx hb dX7_findWidths_45 ?_
      refine lv_topi (fun x_7 ex_7 => ?_)
      replace hp := hp x_7 ex_7
      obtain ⟨hi_8, hp⟩ := hp
      refine r_iald hx hb hw (h0.2.2.2.2.2.2.2.2.2.2.2.2.2.2.2.2.2.2.2.1) hi_8 dX7_findWidths_46 ?_
      obtain ⟨hi_9, hp⟩ := hp
      refine r_iast hx hb hw (h0.2.2.2.2.2.2.2.2.2.2.2.2.2.2.2.2.2.2.2.2.2.2.2.2.2.2.2.2.2.2.2.2.2.2) hi_9 dX7_findWidths_47 (fun I_10 H locs eI_10 hw => ?_)
      replace hp := hp I_10 eI_10
      obtain ⟨x_11, ex_11⟩ : ∃ z : Int32, z = xl2 + (1 : Int32) := ⟨_, rfl⟩
      replace hp := hp x_11 ex_11
      refine lv_iinc (v := x_11) (lv' := [(2, .int x_11), (0, .ref a0), (1, .int p1)]) hx hb dX7_findWidths_48 hl (k := 2) rfl (by rw [ex_11]; rfl) (by decide) rfl (fun ls hl => ?_)
      refine lv_goto (tgt := 2) hx hb dX7_findWidths_51 (by decide) ?_
      exact hB2 (x_11) _ _ _ _ _ hp hw (lv_sub hl [1, 2, 0] rfl)
set_option maxHeartbeats 4000000 in
set_option maxRecDepth 100000 in
theorem c_X7_findWidths (l : Launch) (G : GX) {Sh : SH} {a0 : Nat} {p1 : Int32} (h0 : isModel G Sh a0) {I : MI} {L : ML} {K : MI → ML → Prop} (hp : wp_X7_findWidths G Sh a0 p1 I L K) : CtV l yX7_findWidths (wM yX7_findWidths cX7_findWidths 7 none) (rmA 2 45) G Sh [.ref a0, .int p1] I L K := by
  refine ofA (own := RX7) (by decide) rfl (Nat.le_of_ble_eq_true rfl) ?_
  intro p e s m args below meth c ls C hw hl
  obtain ⟨hx, hb, hr, hml, hown, hts, hlocks⟩ := id C
  replace hl : lv_has ls 7 [(0, .ref a0), (1, .int p1)] := hl
  unfold wp_X7_findWidths at hp
  refine lv_iconst (v := 0) hx hb dX7_findWidths_0 (by decide) ?_
  refine lv_istore_n (lv' := [(2, .int (0 : Int32)), (0, .ref a0), (1, .int p1)]) hx hb dX7_findWidths_1 rfl hl (by decide) rfl (fun ls hl => ?_)
  obtain ⟨n, hp⟩ := hp
  exact w_X7_findWidths_2 C h0 n ((0 : Int32)) _ _ _ _ _ hp hw (lv_sub hl [1, 2, 0] rfl)
set_option maxHeartbeats 4000000 in
set_option maxRecDepth 100000 in
theorem w_X7_gives_41 {p : Program} {l : Launch} {e : Env} {s : State} {m : MethodId} {args : Array Value} {below : List Frame} {meth : Method} {c : Code} (C : Cx p s m args meth c cX7_gives (some .long) 6 RX7) {G : GX} {Sh : SH} {a0 : Nat} {p1 : Int32} {p2 : Int32} {p3 : Int32} {p4 : Int32} {K : Int64 → MI → ML → Prop} (h0 : isModel G Sh a0) : ∀ (xs0 : Int32) (I : MI) (L : ML) (H : Heap) (locs : List Loc) (ls : Array Slot), wp_X7_gives_41 G Sh a0 p1 p2 p3 p4 K xs0 I L → mW G Sh s I L H locs → lv_has ls 6 [(0, .ref a0), (3, .int p3), (4, .int p4)] → W p l e (rmA 2 45) s m args below meth c H locs 0 0 (eL below G Sh K args s) (F0 m 41 ls [.int xs0]) := by
  obtain ⟨hx, hb, hr, hml, hown, hts, hlocks⟩ := id C
  intro xs0 I L H locs ls hp hw hl
  unfold wp_X7_gives_41 at hp
  refine lv_istore (lv' := [(5, .int xs0), (0, .ref a0), (3, .int p3), (4, .int p4)]) hx hb dX7_gives_41 hl (by decide) rfl (fun ls hl => ?_)
  refine lv_iload_n hx hb dX7_gives_43 rfl (lv_at hl 2 rfl) ?_
  refine lv_if_eq (tgt := 74) hx hb dX7_gives_44 (by decide) (fun hc_9 => ?_) (fun hc_9 => ?_)
  · replace hp := hp.1 hc_9
    refine lv_aload_n hx hb dX7_gives_74 rfl (lv_at hl 1 rfl) ?_
    refine gf_X7_44 hx hb hts hown hw (h0.1) dX7_gives_75 ?_
    refine lv_iload hx hb dX7_gives_78 (lv_at hl 0 rfl) ?_
    obtain ⟨hi_10, hp⟩ := hp
    refine r_iald hx hb hw (h0.2.2.2.2.2.2.2.2.2.2.2.2.1) hi_10 dX7_gives_80 ?_
    refine lv_iload hx hb dX7_gives_81 (lv_at hl 3 rfl) ?_
    refine lv_icmp_ne (tgt := 97) hx hb dX7_gives_83 (by decide) (fun hc_11 => ?_) (fun hc_11 => ?_)
    · replace hp := hp.2 hc_11
      refine lv_lconst (v := 0) hx hb dX7_gives_97 (by decide) ?_
      exact r_lret hx hb hr hlocks hw hp dX7_gives_98
    · replace hp := hp.1 hc_11
      refine lv_aload_n hx hb dX7_gives_86 rfl (lv_at hl 1 rfl) ?_
      refine gf_X7_41 hx hb hts hown hw (h0.1) dX7_gives_87 ?_
      refine lv_iload hx hb dX7_gives_90 (lv_at hl 0 rfl) ?_
      obtain ⟨hi_12, hp⟩ := hp
      refine r_iald hx hb hw (h0.2.2.2.2.2.2.2.2.2.2.2.1) hi_12 dX7_gives_92 ?_
      refine lv_i2l hx hb dX7_gives_93 rfl ?_
      refine lv_goto (tgt := 98) hx hb dX7_gives_94 (by decide) ?_
      exact r_lret hx hb hr hlocks hw hp dX7_gives_98
  · replace hp := hp.2 hc_9
    refine lv_aload_n hx hb dX7_gives_47 rfl (lv_at hl 1 rfl) ?_
    refine gf_X7_38 hx hb hts hown hw (h0.1) dX7_gives_48 ?_
    refine lv_iload hx hb dX7_gives_51 (lv_at hl 0 rfl) ?_
    obtain ⟨hi_13, hp⟩ := hp
    refine r_iald hx hb hw (h0.2.2.2.2.2.2.2.2.2.2.1) hi_13 dX7_gives_53 ?_
    refine lv_iload hx hb dX7_gives_54 (lv_at hl 3 rfl) ?_
    refine lv_icmp_ne (tgt := 70) hx hb dX7_gives_56 (by decide) (fun hc_14 => ?_) (fun hc_14 => ?_)
    · replace hp := hp.2 hc_14
      refine lv_lconst (v := 0) hx hb dX7_gives_70 (by decide) ?_
      refine lv_goto (tgt := 98) hx hb dX7_gives_71 (by decide) ?_
      exact r_lret hx hb hr hlocks hw hp dX7_gives_98
    · replace hp := hp.1 hc_14
      refine lv_aload_n hx hb dX7_gives_59 rfl (lv_at hl 1 rfl) ?_
      refine gf_X7_35 hx hb hts hown hw (h0.1) dX7_gives_60 ?_
      refine lv_iload hx hb dX7_gives_63 (lv_at hl 0 rfl) ?_
      obtain ⟨hi_15, hp⟩ := hp
      refine r_iald hx hb hw (h0.2.2.2.2.2.2.2.2.2.1) hi_15 dX7_gives_65 ?_
      refine lv_i2l hx hb dX7_gives_66 rfl ?_
      refine lv_goto (tgt := 98) hx hb dX7_gives_67 (by decide) ?_
      exact r_lret hx hb hr hlocks hw hp dX7_gives_98
set_option maxHeartbeats 4000000 in
set_option maxRecDepth 100000 in
theorem w_X7_gives_22 {p : Program} {l : Launch} {e : Env} {s : State} {m : MethodId} {args : Array Value} {below : List Frame} {meth : Method} {c : Code} (C : Cx p s m args meth c cX7_gives (some .long) 6 RX7) {G : GX} {Sh : SH} {a0 : Nat} {p1 : Int32} {p2 : Int32} {p3 : Int32} {p4 : Int32} {K : Int64 → MI → ML → Prop} (h0 : isModel G Sh a0) : ∀  (I : MI) (L : ML) (H : Heap) (locs : List Loc) (ls : Array Slot), wp_X7_gives_22 G Sh a0 p1 p2 p3 p4 K  I L → mW G Sh s I L H locs → lv_has ls 6 [(0, .ref a0), (1, .int p1), (2, .int p2), (3, .int p3), (4, .int p4)] → W p l e (rmA 2 45) s m args below meth c H locs 0 0 (eL below G Sh K args s) (F0 m 22 ls []) := by
  obtain ⟨hx, hb, hr, hml, hown, hts, hlocks⟩ := id C
  intro I L H locs ls hp hw hl
  unfold wp_X7_gives_22 at hp
  refine lv_iload_n hx hb dX7_gives_22 rfl (lv_at hl 2 rfl) ?_
  refine lv_if_ne (tgt := 33) hx hb dX7_gives_23 (by decide) (fun hc_5 => ?_) (fun hc_5 => ?_)
  · replace hp := hp.2 hc_5
    refine lv_aload_n hx hb dX7_gives_33 rfl (lv_at hl 0 rfl) ?_
    refine lv_iload_n hx hb dX7_gives_34 rfl (lv_at hl 1 rfl) ?_
    refine lv_iload_n hx hb dX7_gives_35 rfl (lv_at hl 2 rfl) ?_
    refine lv_iconst (v := 1) hx hb dX7_gives_36 (by decide) ?_
    refine lv_isub hx hb dX7_gives_37 ?_
    refine r_cvI (As := [.int p1, .int (p2 - (1 : Int32))]) ⟨hx, hb, hml, hown, hts⟩ (c_X7_glueBehind l G (h0) hp) (cw_X7_184 hts ⟨Nat.le_of_ble_eq_true rfl, Nat.le_of_ble_eq_true rfl⟩) hw (hw.recv (h0.1) rfl rfl) rfl rfl hl.1 (Nat.le_of_ble_eq_true rfl) ⟨Nat.zero_le _, Nat.zero_le _⟩ dX7_gives_38 (fun r_6 I_7 L_8 H locs hp hw => ?_)
    exact w_X7_gives_41 C h0 (r_6) _ _ _ _ _ hp hw (lv_sub hl [0, 3, 4] rfl)
  · replace hp := hp.1 hc_5
    refine lv_bipush (v := 13) hx hb dX7_gives_26 (by decide) ?_
    refine lv_iload_n hx hb dX7_gives_28 rfl (lv_at hl 1 rfl) ?_
    refine lv_imul hx hb dX7_gives_29 ?_
    refine lv_goto (tgt := 41) hx hb dX7_gives_30 (by decide) ?_
    exact w_X7_gives_41 C h0 (((13 : Int32) * p1)) _ _ _ _ _ hp hw (lv_sub hl [0, 3, 4] rfl)
set_option maxHeartbeats 4000000 in
set_option maxRecDepth 100000 in
theorem c_X7_gives (l : Launch) (G : GX) {Sh : SH} {a0 : Nat} {p1 : Int32} {p2 : Int32} {p3 : Int32} {p4 : Int32} (h0 : isModel G Sh a0) {I : MI} {L : ML} {K : Int64 → MI → ML → Prop} (hp : wp_X7_gives G Sh a0 p1 p2 p3 p4 I L K) : CtL l yX7_gives (wM yX7_gives cX7_gives 6 (some .long)) (rmA 2 45) G Sh [.ref a0, .int p1, .int p2, .int p3, .int p4] I L K := by
  refine ofA (own := RX7) (by decide) rfl (Nat.le_of_ble_eq_true rfl) ?_
  intro p e s m args below meth c ls C hw hl
  obtain ⟨hx, hb, hr, hml, hown, hts, hlocks⟩ := id C
  replace hl : lv_has ls 6 [(0, .ref a0), (1, .int p1), (2, .int p2), (3, .int p3), (4, .int p4)] := hl
  unfold wp_X7_gives at hp
  refine lv_iload_n hx hb dX7_gives_0 rfl (lv_at hl 2 rfl) ?_
  refine lv_if_le (tgt := 22) hx hb dX7_gives_1 (by decide) (fun hc_1 => ?_) (fun hc_1 => ?_)
  · replace hp := hp.1 hc_1
    exact w_X7_gives_22 C h0  _ _ _ _ _ hp hw (lv_sub hl [0, 1, 2, 3, 4] rfl)
  · replace hp := hp.2 hc_1
    refine lv_aload_n hx hb dX7_gives_4 rfl (lv_at hl 0 rfl) ?_
    refine gf_X7_89 hx hb hts hown hw (h0.1) dX7_gives_5 ?_
    refine lv_bipush (v := 24) hx hb dX7_gives_8 (by decide) ?_
    refine lv_iload_n hx hb dX7_gives_10 rfl (lv_at hl 1 rfl) ?_
    refine lv_imul hx hb dX7_gives_11 ?_
    refine lv_iload_n hx hb dX7_gives_12 rfl (lv_at hl 2 rfl) ?_
    refine lv_iadd hx hb dX7_gives_13 ?_
    refine lv_iconst (v := 1) hx hb dX7_gives_14 (by decide) ?_
    refine lv_isub hx hb dX7_gives_15 ?_
    refine lv_topi (fun x_2 ex_2 => ?_)
    replace hp := hp x_2 ex_2
    obtain ⟨hi_3, hp⟩ := hp
    refine r_zald hx hb hw (h0.2.2.2.2.2.2.2.2.2.2.2.2.2.2.2.2.2.2.2.2.2.2.2.2.2.2.2.1) hi_3 dX7_gives_16 ?_
    refine lv_if_eq (tgt := 22) hx hb dX7_gives_17 (by decide) (fun hc_4 => ?_) (fun hc_4 => ?_)
    · replace hp := hp.1 hc_4
      exact w_X7_gives_22 C h0  _ _ _ _ _ hp hw (lv_sub hl [0, 1, 2, 3, 4] rfl)
    · replace hp := hp.2 hc_4
      refine lv_lconst (v := 0) hx hb dX7_gives_20 (by decide) ?_
      exact r_lret hx hb hr hlocks hw hp dX7_gives_21
set_option maxHeartbeats 4000000 in
set_option maxRecDepth 100000 in
theorem c_X7_wrongGlue (l : Launch) (G : GX) {Sh : SH} {a0 : Nat} {p1 : Int32} {p2 : Int32} (h0 : isModel G Sh a0) {I : MI} {L : ML} {K : Int32 → MI → ML → Prop} (hp : wp_X7_wrongGlue G Sh a0 p1 p2 I L K) : CtI l yX7_wrongGlue (wM yX7_wrongGlue cX7_wrongGlue 3 (some .int)) (rmA 1 25) G Sh [.ref a0, .int p1, .int p2] I L K := by
  refine ofA (own := RX7) (by decide) rfl (Nat.le_of_ble_eq_true rfl) ?_
  intro p e s m args below meth c ls C hw hl
  obtain ⟨hx, hb, hr, hml, hown, hts, hlocks⟩ := id C
  replace hl : lv_has ls 3 [(0, .ref a0), (1, .int p1), (2, .int p2)] := hl
  unfold wp_X7_wrongGlue at hp
  refine lv_aload_n hx hb dX7_wrongGlue_0 rfl (lv_at hl 0 rfl) ?_
  refine lv_iload_n hx hb dX7_wrongGlue_1 rfl (lv_at hl 1 rfl) ?_
  refine r_cvI (As := [.int p1]) ⟨hx, hb, hml, hown, hts⟩ (c_X7_isTable l G (h0) hp) (cw_X7_121 hts ⟨Nat.le_of_ble_eq_true rfl, Nat.le_of_ble_eq_true rfl⟩) hw (hw.recv (h0.1) rfl rfl) rfl rfl hl.1 (Nat.le_of_ble_eq_true rfl) ⟨Nat.zero_le _, Nat.zero_le _⟩ dX7_wrongGlue_2 (fun r_1 I_2 L_3 H locs hp hw => ?_)
  refine lv_if_ne (tgt := 12) hx hb dX7_wrongGlue_5 (by decide) (fun hc_4 => ?_) (fun hc_4 => ?_)
  · replace hp := hp.2 hc_4
    refine lv_aload_n hx hb dX7_wrongGlue_12 rfl (lv_at hl 0 rfl) ?_
    refine gf_X7_16 hx hb hts hown hw (h0.1) dX7_wrongGlue_13 ?_
    refine lv_iload_n hx hb dX7_wrongGlue_16 rfl (lv_at hl 1 rfl) ?_
    obtain ⟨hi_5, hp⟩ := hp
    refine r_zald hx hb hw (h0.2.2.2.1) hi_5 dX7_wrongGlue_17 ?_
    refine lv_if_ne (tgt := 26) hx hb dX7_wrongGlue_18 (by decide) (fun hc_6 => ?_) (fun hc_6 => ?_)
    · replace hp := hp.2 hc_6
      refine lv_iload_n hx hb dX7_wrongGlue_26 rfl (lv_at hl 2 rfl) ?_
      refine lv_i2l hx hb dX7_wrongGlue_27 rfl ?_
      refine lv_lconst (v := 0) hx hb dX7_wrongGlue_28 (by decide) ?_
      refine lv_aload_n hx hb dX7_wrongGlue_29 rfl (lv_at hl 0 rfl) ?_
      refine gf_X7_20 hx hb hts hown hw (h0.1) dX7_wrongGlue_30 ?_
      refine lv_iload_n hx hb dX7_wrongGlue_33 rfl (lv_at hl 1 rfl) ?_
      obtain ⟨hi_7, hp⟩ := hp
      refine r_iald hx hb hw (h0.2.2.2.2.1) hi_7 dX7_wrongGlue_34 ?_
      refine lv_i2l hx hb dX7_wrongGlue_35 rfl ?_
      refine r_csI (As := [.long (Int32.toInt64 p2), .long (0 : Int64), .long (Int32.toInt64 (I_2 (a0 + 4) (p1).toNatClampNeg))]) ⟨hx, hb, hml, hown, hts⟩ (c_X7_in l G  hp) (cw_X7_149 hts ⟨Nat.le_of_ble_eq_true rfl, Nat.le_of_ble_eq_true rfl⟩) hw rfl rfl hl.1 (Nat.le_of_ble_eq_true rfl) ⟨Nat.zero_le _, Nat.zero_le _⟩ dX7_wrongGlue_36 (fun r_8 I_9 L_10 H locs hp hw => ?_)
      refine lv_if_ne (tgt := 46) hx hb dX7_wrongGlue_39 (by decide) (fun hc_11 => ?_) (fun hc_11 => ?_)
      · replace hp := hp.2 hc_11
        refine lv_iconst (v := 0) hx hb dX7_wrongGlue_46 (by decide) ?_
        exact r_iret hx hb hr hlocks hw hp dX7_wrongGlue_47
      · replace hp := hp.1 hc_11
        refine lv_iconst (v := (-1)) hx hb dX7_wrongGlue_42 (by decide) ?_
        refine lv_goto (tgt := 47) hx hb dX7_wrongGlue_43 (by decide) ?_
        exact r_iret hx hb hr hlocks hw hp dX7_wrongGlue_47
    · replace hp := hp.1 hc_6
      refine lv_bipush (v := (-3)) hx hb dX7_wrongGlue_21 (by decide) ?_
      refine lv_goto (tgt := 47) hx hb dX7_wrongGlue_23 (by decide) ?_
      exact r_iret hx hb hr hlocks hw hp dX7_wrongGlue_47
  · replace hp := hp.1 hc_4
    refine lv_iconst (v := (-1)) hx hb dX7_wrongGlue_8 (by decide) ?_
    refine lv_goto (tgt := 47) hx hb dX7_wrongGlue_9 (by decide) ?_
    exact r_iret hx hb hr hlocks hw hp dX7_wrongGlue_47
set_option maxHeartbeats 4000000 in
set_option maxRecDepth 100000 in
theorem c_X7_glue (l : Launch) (G : GX) {Sh : SH} {a0 : Nat} {p1 : Int32} {p2 : Int32} {p3 : Int32} {p4 : Int32} {p5 : Int32} (h0 : isModel G Sh a0) {I : MI} {L : ML} {K : Int32 → MI → ML → Prop} (hp : wp_X7_glue G Sh a0 p1 p2 p3 p4 p5 I L K) : CtI l yX7_glue (wM yX7_glue cX7_glue 7 (some .int)) (rmA 2 47) G Sh [.ref a0, .int p1, .int p2, .int p3, .int p4, .int p5] I L K := by
  refine ofA (own := RX7) (by decide) rfl (Nat.le_of_ble_eq_true rfl) ?_
  intro p e s m args below meth c ls C hw hl
  obtain ⟨hx, hb, hr, hml, hown, hts, hlocks⟩ := id C
  replace hl : lv_has ls 7 [(0, .ref a0), (1, .int p1), (2, .int p2), (3, .int p3), (4, .int p4), (5, .int p5)] := hl
  unfold wp_X7_glue at hp
  refine lv_aload_n hx hb dX7_glue_0 rfl (lv_at hl 0 rfl) ?_
  refine lv_iconst (v := 0) hx hb dX7_glue_1 (by decide) ?_
  refine pf_X7_114 hx hb hts hown hw (h0.1) dX7_glue_2 (fun I_1 H locs eI_1 hw => ?_)
  replace hp := hp I_1 eI_1
  refine lv_aload_n hx hb dX7_glue_5 rfl (lv_at hl 0 rfl) ?_
  refine lv_iload_n hx hb dX7_glue_6 rfl (lv_at hl 1 rfl) ?_
  refine lv_iload_n hx hb dX7_glue_7 rfl (lv_at hl 2 rfl) ?_
  refine r_cvI (As := [.int p1, .int p2]) ⟨hx, hb, hml, hown, hts⟩ (c_X7_wrongGlue l G (h0) hp) (cw_X7_153 hts ⟨Nat.le_of_ble_eq_true rfl, Nat.le_of_ble_eq_true rfl⟩) hw (hw.recv (h0.1) rfl rfl) rfl rfl hl.1 (Nat.le_of_ble_eq_true rfl) ⟨Nat.zero_le _, Nat.zero_le _⟩ dX7_glue_8 (fun r_2 I_3 L_4 H locs hp hw => ?_)
  refine lv_istore (lv' := [(6, .int r_2), (0, .ref a0), (1, .int p1), (2, .int p2), (3, .int p3), (4, .int p4), (5, .int p5)]) hx hb dX7_glue_11 hl (by decide) rfl (fun ls hl => ?_)
  refine lv_iload hx hb dX7_glue_13 (lv_at hl 0 rfl) ?_
  refine lv_if_eq (tgt := 21) hx hb dX7_glue_15 (by decide) (fun hc_5 => ?_) (fun hc_5 => ?_)
  · replace hp := hp.1 hc_5
    refine lv_iload_n hx hb dX7_glue_21 rfl (lv_at hl 4 rfl) ?_
    refine lv_i2l hx hb dX7_glue_22 rfl ?_
    refine lv_ldc2 hx hb hown (hts _ k_832) dX7_glue_23 ?_
    refine lv_ldc2 hx hb hown (hts _ k_833) dX7_glue_26 ?_
    refine r_csI (As := [.long (Int32.toInt64 p3), .long (-10000 : Int64), .long (10000 : Int64)]) ⟨hx, hb, hml, hown, hts⟩ (c_X7_in l G  hp) (cw_X7_149 hts ⟨Nat.le_of_ble_eq_true rfl, Nat.le_of_ble_eq_true rfl⟩) hw rfl rfl hl.1 (Nat.le_of_ble_eq_true rfl) ⟨Nat.zero_le _, Nat.zero_le _⟩ dX7_glue_29 (fun r_6 I_7 L_8 H locs hp hw => ?_)
    refine lv_if_eq (tgt := 61) hx hb dX7_glue_32 (by decide) (fun hc_9 => ?_) (fun hc_9 => ?_)
    · replace hp := hp.1 hc_9
      refine lv_bipush (v := (-2)) hx hb dX7_glue_61 (by decide) ?_
      exact r_iret hx hb hr hlocks hw hp dX7_glue_63
    · replace hp := hp.2 hc_9
      refine lv_iload hx hb dX7_glue_35 (lv_at hl 5 rfl) ?_
      refine lv_i2l hx hb dX7_glue_37 rfl ?_
      refine lv_lconst (v := 0) hx hb dX7_glue_38 (by decide) ?_
      refine lv_ldc2 hx hb hown (hts _ k_833) dX7_glue_39 ?_
      refine r_csI (As := [.long (Int32.toInt64 p4), .long (0 : Int64), .long (10000 : Int64)]) ⟨hx, hb, hml, hown, hts⟩ (c_X7_in l G  hp) (cw_X7_149 hts ⟨Nat.le_of_ble_eq_true rfl, Nat.le_of_ble_eq_true rfl⟩) hw rfl rfl hl.1 (Nat.le_of_ble_eq_true rfl) ⟨Nat.zero_le _, Nat.zero_le _⟩ dX7_glue_42 (fun r_10 I_11 L_12 H locs hp hw => ?_)
      refine lv_if_eq (tgt := 61) hx hb dX7_glue_45 (by decide) (fun hc_13 => ?_) (fun hc_13 => ?_)
      · replace hp := hp.1 hc_13
        refine lv_bipush (v := (-2)) hx hb dX7_glue_61 (by decide) ?_
        exact r_iret hx hb hr hlocks hw hp dX7_glue_63
      · replace hp := hp.2 hc_13
        refine lv_iload hx hb dX7_glue_48 (lv_at hl 6 rfl) ?_
        refine lv_i2l hx hb dX7_glue_50 rfl ?_
        refine lv_lconst (v := 0) hx hb dX7_glue_51 (by decide) ?_
        refine lv_ldc2 hx hb hown (hts _ k_834) dX7_glue_52 ?_
        refine r_csI (As := [.long (Int32.toInt64 p5), .long (0 : Int64), .long (3 : Int64)]) ⟨hx, hb, hml, hown, hts⟩ (c_X7_in l G  hp) (cw_X7_149 hts ⟨Nat.le_of_ble_eq_true rfl, Nat.le_of_ble_eq_true rfl⟩) hw rfl rfl hl.1 (Nat.le_of_ble_eq_true rfl) ⟨Nat.zero_le _, Nat.zero_le _⟩ dX7_glue_55 (fun r_14 I_15 L_16 H locs hp hw => ?_)
        refine lv_if_ne (tgt := 64) hx hb dX7_glue_58 (by decide) (fun hc_17 => ?_) (fun hc_17 => ?_)
        · replace hp := hp.2 hc_17
          refine lv_aload_n hx hb dX7_glue_64 rfl (lv_at hl 1 rfl) ?_
          refine gf_X7_32 hx hb hts hown hw (h0.1) dX7_glue_65 ?_
          refine lv_bipush (v := 13) hx hb dX7_glue_68 (by decide) ?_
          refine lv_iload_n hx hb dX7_glue_70 rfl (lv_at hl 2 rfl) ?_
          refine lv_imul hx hb dX7_glue_71 ?_
          refine lv_iload_n hx hb dX7_glue_72 rfl (lv_at hl 3 rfl) ?_
          refine lv_iadd hx hb dX7_glue_73 ?_
          refine lv_iload_n hx hb dX7_glue_74 rfl (lv_at hl 4 rfl) ?_
          obtain ⟨hi_18, hp⟩ := hp
          refine r_iast hx hb hw (h0.2.2.2.2.2.2.2.2.1) hi_18 dX7_glue_75 (fun I_19 H locs eI_19 hw => ?_)
          replace hp := hp I_19 eI_19
          refine lv_aload_n hx hb dX7_glue_76 rfl (lv_at hl 1 rfl) ?_
          refine gf_X7_35 hx hb hts hown hw (h0.1) dX7_glue_77 ?_
          refine lv_bipush (v := 13) hx hb dX7_glue_80 (by decide) ?_
          refine lv_iload_n hx hb dX7_glue_82 rfl (lv_at hl 2 rfl) ?_
          refine lv_imul hx hb dX7_glue_83 ?_
          refine lv_iload_n hx hb dX7_glue_84 rfl (lv_at hl 3 rfl) ?_
          refine lv_iadd hx hb dX7_glue_85 ?_
          refine lv_iload hx hb dX7_glue_86 (lv_at hl 5 rfl) ?_
          obtain ⟨hi_20, hp⟩ := hp
          refine r_iast hx hb hw (h0.2.2.2.2.2.2.2.2.2.1) hi_20 dX7_glue_88 (fun I_21 H locs eI_21 hw => ?_)
          replace hp := hp I_21 eI_21
          refine lv_aload_n hx hb dX7_glue_89 rfl (lv_at hl 1 rfl) ?_
          refine gf_X7_38 hx hb hts hown hw (h0.1) dX7_glue_90 ?_
          refine lv_bipush (v := 13) hx hb dX7_glue_93 (by decide) ?_
          refine lv_iload_n hx hb dX7_glue_95 rfl (lv_at hl 2 rfl) ?_
          refine lv_imul hx hb dX7_glue_96 ?_
          refine lv_iload_n hx hb dX7_glue_97 rfl (lv_at hl 3 rfl) ?_
          refine lv_iadd hx hb dX7_glue_98 ?_
          refine lv_iload hx hb dX7_glue_99 (lv_at hl 6 rfl) ?_
          obtain ⟨hi_22, hp⟩ := hp
          refine r_iast hx hb hw (h0.2.2.2.2.2.2.2.2.2.2.1) hi_22 dX7_glue_101 (fun I_23 H locs eI_23 hw => ?_)
          replace hp := hp I_23 eI_23
          refine lv_iconst (v := 1) hx hb dX7_glue_102 (by decide) ?_
          exact r_iret hx hb hr hlocks hw hp dX7_glue_103
        · replace hp := hp.1 hc_17
          refine lv_bipush (v := (-2)) hx hb dX7_glue_61 (by decide) ?_
          exact r_iret hx hb hr hlocks hw hp dX7_glue_63
  · replace hp := hp.2 hc_5
    refine lv_iload hx hb dX7_glue_18 (lv_at hl 0 rfl) ?_
    exact r_iret hx hb hr hlocks hw hp dX7_glue_20
set_option maxHeartbeats 4000000 in
set_option maxRecDepth 100000 in
theorem c_X7_isLetter (l : Launch) (G : GX) {Sh : SH} {p0 : Int32}  {I : MI} {L : ML} {K : Int32 → MI → ML → Prop} (hp : wp_X7_isLetter G Sh p0 I L K) : CtI l yX7_isLetter (wM yX7_isLetter cX7_isLetter 1 (some .boolean)) (rmA 0 0) G Sh [.int p0] I L K := by
  refine ofA (own := RX7) (by decide) rfl (Nat.le_of_ble_eq_true rfl) ?_
  intro p e s m args below meth c ls C hw hl
  obtain ⟨hx, hb, hr, hml, hown, hts, hlocks⟩ := id C
  replace hl : lv_has ls 1 [(0, .int p0)] := hl
  unfold wp_X7_isLetter at hp
  refine lv_iload_n hx hb dX7_isLetter_0 rfl (lv_at hl 0 rfl) ?_
  refine lv_bipush (v := 97) hx hb dX7_isLetter_1 (by decide) ?_
  refine lv_icmp_lt (tgt := 16) hx hb dX7_isLetter_3 (by decide) (fun hc_1 => ?_) (fun hc_1 => ?_)
  · replace hp := hp.1 hc_1
    refine lv_iconst (v := 0) hx hb dX7_isLetter_16 (by decide) ?_
    exact r_zret hx hb hr hlocks hw ⟨rfl, hp⟩ dX7_isLetter_17
  · replace hp := hp.2 hc_1
    refine lv_iload_n hx hb dX7_isLetter_6 rfl (lv_at hl 0 rfl) ?_
    refine lv_bipush (v := 122) hx hb dX7_isLetter_7 (by decide) ?_
    refine lv_icmp_gt (tgt := 16) hx hb dX7_isLetter_9 (by decide) (fun hc_2 => ?_) (fun hc_2 => ?_)
    · replace hp := hp.1 hc_2
      refine lv_iconst (v := 0) hx hb dX7_isLetter_16 (by decide) ?_
      exact r_zret hx hb hr hlocks hw ⟨rfl, hp⟩ dX7_isLetter_17
    · replace hp := hp.2 hc_2
      refine lv_iconst (v := 1) hx hb dX7_isLetter_12 (by decide) ?_
      refine lv_goto (tgt := 17) hx hb dX7_isLetter_13 (by decide) ?_
      exact r_zret hx hb hr hlocks hw ⟨rfl, hp⟩ dX7_isLetter_17
set_option maxHeartbeats 4000000 in
set_option maxRecDepth 100000 in
theorem c_X7_isVoid (l : Launch) (G : GX) {Sh : SH} {a0 : Nat} {p1 : Int32} {p2 : Int32} (h0 : isModel G Sh a0) {I : MI} {L : ML} {K : Int32 → MI → ML → Prop} (hp : wp_X7_isVoid G Sh a0 p1 p2 I L K) : CtI l yX7_isVoid (wM yX7_isVoid cX7_isVoid 3 (some .boolean)) (rmA 2 43) G Sh [.ref a0, .int p1, .int p2] I L K := by
  refine ofA (own := RX7) (by decide) rfl (Nat.le_of_ble_eq_true rfl) ?_
  intro p e s m args below meth c ls C hw hl
  obtain ⟨hx, hb, hr, hml, hown, hts, hlocks⟩ := id C
  replace hl : lv_has ls 3 [(0, .ref a0), (1, .int p1), (2, .int p2)] := hl
  unfold wp_X7_isVoid at hp
  refine lv_aload_n hx hb dX7_isVoid_0 rfl (lv_at hl 0 rfl) ?_
  refine lv_iconst (v := 0) hx hb dX7_isVoid_1 (by decide) ?_
  refine pf_X7_114 hx hb hts hown hw (h0.1) dX7_isVoid_2 (fun I_1 H locs eI_1 hw => ?_)
  replace hp := hp I_1 eI_1
  refine lv_aload_n hx hb dX7_isVoid_5 rfl (lv_at hl 0 rfl) ?_
  refine lv_iload_n hx hb dX7_isVoid_6 rfl (lv_at hl 1 rfl) ?_
  refine lv_iload_n hx hb dX7_isVoid_7 rfl (lv_at hl 2 rfl) ?_
  refine r_cvI (As := [.int p1, .int p2]) ⟨hx, hb, hml, hown, hts⟩ (c_X7_isColumn l G (h0) hp) (cw_X7_216 hts ⟨Nat.le_of_ble_eq_true rfl, Nat.le_of_ble_eq_true rfl⟩) hw (hw.recv (h0.1) rfl rfl) rfl rfl hl.1 (Nat.le_of_ble_eq_true rfl) ⟨Nat.zero_le _, Nat.zero_le _⟩ dX7_isVoid_8 (fun r_2 I_3 L_4 H locs hp hw => ?_)
  refine lv_if_eq (tgt := 32) hx hb dX7_isVoid_11 (by decide) (fun hc_5 => ?_) (fun hc_5 => ?_)
  · replace hp := hp.1 hc_5
    refine lv_iconst (v := 0) hx hb dX7_isVoid_32 (by decide) ?_
    exact r_zret hx hb hr hlocks hw ⟨rfl, hp⟩ dX7_isVoid_33
  · replace hp := hp.2 hc_5
    refine lv_aload_n hx hb dX7_isVoid_14 rfl (lv_at hl 0 rfl) ?_
    refine gf_X7_89 hx hb hts hown hw (h0.1) dX7_isVoid_15 ?_
    refine lv_bipush (v := 24) hx hb dX7_isVoid_18 (by decide) ?_
    refine lv_iload_n hx hb dX7_isVoid_20 rfl (lv_at hl 1 rfl) ?_
    refine lv_imul hx hb dX7_isVoid_21 ?_
    refine lv_iload_n hx hb dX7_isVoid_22 rfl (lv_at hl 2 rfl) ?_
    refine lv_iadd hx hb dX7_isVoid_23 ?_
    refine lv_topi (fun x_6 ex_6 => ?_)
    replace hp := hp x_6 ex_6
    obtain ⟨hi_7, hp⟩ := hp
    refine r_zald hx hb hw (h0.2.2.2.2.2.2.2.2.2.2.2.2.2.2.2.2.2.2.2.2.2.2.2.2.2.2.2.1) hi_7 dX7_isVoid_24 ?_
    refine lv_if_eq (tgt := 32) hx hb dX7_isVoid_25 (by decide) (fun hc_8 => ?_) (fun hc_8 => ?_)
    · replace hp := hp.1 hc_8
      refine lv_iconst (v := 0) hx hb dX7_isVoid_32 (by decide) ?_
      exact r_zret hx hb hr hlocks hw ⟨rfl, hp⟩ dX7_isVoid_33
    · replace hp := hp.2 hc_8
      refine lv_iconst (v := 1) hx hb dX7_isVoid_28 (by decide) ?_
      refine lv_goto (tgt := 33) hx hb dX7_isVoid_29 (by decide) ?_
      exact r_zret hx hb hr hlocks hw ⟨rfl, hp⟩ dX7_isVoid_33
set_option maxHeartbeats 4000000 in
set_option maxRecDepth 100000 in
theorem w_X7_item_28 {p : Program} {l : Launch} {e : Env} {s : State} {m : MethodId} {args : Array Value} {below : List Frame} {meth : Method} {c : Code} (C : Cx p s m args meth c cX7_item (some .int) 3 RX7) {G : GX} {Sh : SH} {a0 : Nat} {p1 : Int32} {p2 : Int32} {K : Int32 → MI → ML → Prop} (h0 : isModel G Sh a0) : ∀ (xs0 : Int32) (I : MI) (L : ML) (H : Heap) (locs : List Loc) (ls : Array Slot), wp_X7_item_28 G Sh a0 p1 p2 K xs0 I L → mW G Sh s I L H locs → lv_has ls 3 [(0, .ref a0), (1, .int p1), (2, .int p2)] → W p l e (rmA 1 21) s m args below meth c H locs 0 0 (eI below G Sh K args s) (F0 m 28 ls [.int xs0, .ref a0]) := by
  obtain ⟨hx, hb, hr, hml, hown, hts, hlocks⟩ := id C
  intro xs0 I L H locs ls hp hw hl
  unfold wp_X7_item_28 at hp
  refine pf_X7_114 hx hb hts hown hw (h0.1) dX7_item_28 (fun I_8 H locs eI_8 hw => ?_)
  replace hp := hp I_8 eI_8
  refine lv_aload_n hx hb dX7_item_31 rfl (lv_at hl 0 rfl) ?_
  refine gf_X7_114 hx hb hts hown hw (h0.1) dX7_item_32 ?_
  refine lv_if_ne (tgt := 52) hx hb dX7_item_35 (by decide) (fun hc_9 => ?_) (fun hc_9 => ?_)
  · replace hp := hp.2 hc_9
    refine lv_iconst (v := 0) hx hb dX7_item_52 (by decide) ?_
    exact r_iret hx hb hr hlocks hw hp dX7_item_53
  · replace hp := hp.1 hc_9
    refine lv_aload_n hx hb dX7_item_38 rfl (lv_at hl 0 rfl) ?_
    refine gf_X7_74 hx hb hts hown hw (h0.1) dX7_item_39 ?_
    refine lv_bipush (v := 40) hx hb dX7_item_42 (by decide) ?_
    refine lv_iload_n hx hb dX7_item_44 rfl (lv_at hl 1 rfl) ?_
    refine lv_imul hx hb dX7_item_45 ?_
    refine lv_iload_n hx hb dX7_item_46 rfl (lv_at hl 2 rfl) ?_
    refine lv_iadd hx hb dX7_item_47 ?_
    refine lv_topi (fun x_10 ex_10 => ?_)
    replace hp := hp x_10 ex_10
    obtain ⟨hi_11, hp⟩ := hp
    refine r_iald hx hb hw (h0.2.2.2.2.2.2.2.2.2.2.2.2.2.2.2.2.2.2.2.2.2.2.1) hi_11 dX7_item_48 ?_
    refine lv_goto (tgt := 53) hx hb dX7_item_49 (by decide) ?_
    exact r_iret hx hb hr hlocks hw hp dX7_item_53
set_option maxHeartbeats 4000000 in
set_option maxRecDepth 100000 in
theorem c_X7_item (l : Launch) (G : GX) {Sh : SH} {a0 : Nat} {p1 : Int32} {p2 : Int32} (h0 : isModel G Sh a0) {I : MI} {L : ML} {K : Int32 → MI → ML → Prop} (hp : wp_X7_item G Sh a0 p1 p2 I L K) : CtI l yX7_item (wM yX7_item cX7_item 3 (some .int)) (rmA 1 21) G Sh [.ref a0, .int p1, .int p2] I L K := by
  refine ofA (own := RX7) (by decide) rfl (Nat.le_of_ble_eq_true rfl) ?_
  intro p e s m args below meth c ls C hw hl
  obtain ⟨hx, hb, hr, hml, hown, hts, hlocks⟩ := id C
  replace hl : lv_has ls 3 [(0, .ref a0), (1, .int p1), (2, .int p2)] := hl
  unfold wp_X7_item at hp
  refine lv_aload_n hx hb dX7_item_0 rfl (lv_at hl 0 rfl) ?_
  refine lv_aload_n hx hb dX7_item_1 rfl (lv_at hl 0 rfl) ?_
  refine lv_iload_n hx hb dX7_item_2 rfl (lv_at hl 1 rfl) ?_
  refine r_cvI (As := [.int p1]) ⟨hx, hb, hml, hown, hts⟩ (c_X7_isTable l G (h0) hp) (cw_X7_121 hts ⟨Nat.le_of_ble_eq_true rfl, Nat.le_of_ble_eq_true rfl⟩) hw (hw.recv (h0.1) rfl rfl) rfl rfl hl.1 (Nat.le_of_ble_eq_true rfl) ⟨Nat.zero_le _, Nat.zero_le _⟩ dX7_item_3 (fun r_1 I_2 L_3 H locs hp hw => ?_)
  refine lv_if_eq (tgt := 23) hx hb dX7_item_6 (by decide) (fun hc_4 => ?_) (fun hc_4 => ?_)
  · replace hp := hp.1 hc_4
    refine lv_iconst (v := 1) hx hb dX7_item_23 (by decide) ?_
    refine lv_goto (tgt := 28) hx hb dX7_item_24 (by decide) ?_
    exact w_X7_item_28 C h0 ((1 : Int32)) _ _ _ _ _ hp hw (lv_sub hl [0, 1, 2] rfl)
  · replace hp := hp.2 hc_4
    refine lv_iload_n hx hb dX7_item_9 rfl (lv_at hl 2 rfl) ?_
    refine lv_if_lt (tgt := 23) hx hb dX7_item_10 (by decide) (fun hc_5 => ?_) (fun hc_5 => ?_)
    · replace hp := hp.1 hc_5
      refine lv_iconst (v := 1) hx hb dX7_item_23 (by decide) ?_
      refine lv_goto (tgt := 28) hx hb dX7_item_24 (by decide) ?_
      exact w_X7_item_28 C h0 ((1 : Int32)) _ _ _ _ _ hp hw (lv_sub hl [0, 1, 2] rfl)
    · replace hp := hp.2 hc_5
      refine lv_iload_n hx hb dX7_item_13 rfl (lv_at hl 2 rfl) ?_
      refine lv_aload_n hx hb dX7_item_14 rfl (lv_at hl 0 rfl) ?_
      refine gf_X7_71 hx hb hts hown hw (h0.1) dX7_item_15 ?_
      refine lv_iload_n hx hb dX7_item_18 rfl (lv_at hl 1 rfl) ?_
      obtain ⟨hi_6, hp⟩ := hp
      refine r_iald hx hb hw (h0.2.2.2.2.2.2.2.2.2.2.2.2.2.2.2.2.2.2.2.2.2.1) hi_6 dX7_item_19 ?_
      refine lv_icmp_lt (tgt := 27) hx hb dX7_item_20 (by decide) (fun hc_7 => ?_) (fun hc_7 => ?_)
      · replace hp := hp.1 hc_7
        refine lv_iconst (v := 0) hx hb dX7_item_27 (by decide) ?_
        exact w_X7_item_28 C h0 ((0 : Int32)) _ _ _ _ _ hp hw (lv_sub hl [0, 1, 2] rfl)
      · replace hp := hp.2 hc_7
        refine lv_iconst (v := 1) hx hb dX7_item_23 (by decide) ?_
        refine lv_goto (tgt := 28) hx hb dX7_item_24 (by decide) ?_
        exact w_X7_item_28 C h0 ((1 : Int32)) _ _ _ _ _ hp hw (lv_sub hl [0, 1, 2] rfl)
