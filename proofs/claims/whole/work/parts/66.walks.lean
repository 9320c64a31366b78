set_option maxHeartbeats 4000000 in
set_option maxRecDepth 100000 in
theorem c_X7_sign (l : Launch) (G : GX) {Sh : SH} {a0 : Nat} {p1 : Int32} (h0 : isModel G Sh a0) {I : MI} {L : ML} {K : Int32 → MI → ML → Prop} (hp : wp_X7_sign G Sh a0 p1 I L K) : CtI l yX7_sign (wM yX7_sign cX7_sign 2 (some .int)) (rmA 0 0) G Sh [.ref a0, .int p1] I L K := by
  refine ofA (own := RX7) (by decide) rfl (Nat.le_of_ble_eq_true rfl) ?_
  intro p e s m args below meth c ls C hw hl
  obtain ⟨hx, hb, hr, hml, hown, hts, hlocks⟩ := id C
  replace hl : lv_has ls 2 [(0, .ref a0), (1, .int p1)] := hl
  unfold wp_X7_sign at hp
  refine lv_aload_n hx hb dX7_sign_0 rfl (lv_at hl 0 rfl) ?_
  refine gf_X7_132 hx hb hts hown hw (h0.1) dX7_sign_1 ?_
  refine lv_aload_n hx hb dX7_sign_4 rfl (lv_at hl 0 rfl) ?_
  refine gf_X7_13 hx hb hts hown hw (h0.1) dX7_sign_5 ?_
  refine lv_iload_n hx hb dX7_sign_8 rfl (lv_at hl 1 rfl) ?_
  obtain ⟨hi_1, hp⟩ := hp
  refine r_iald hx hb hw (h0.2.2.1) hi_1 dX7_sign_9 ?_
  refine lv_icmp_ge (tgt := 30) hx hb dX7_sign_10 (by decide) (fun hc_2 => ?_) (fun hc_2 => ?_)
  · replace hp := hp.1 hc_2
    refine lv_iconst (v := 0) hx hb dX7_sign_30 (by decide) ?_
    exact r_iret hx hb hr hlocks hw hp dX7_sign_31
  · replace hp := hp.2 hc_2
    refine lv_aload_n hx hb dX7_sign_13 rfl (lv_at hl 0 rfl) ?_
    refine gf_X7_7 hx hb hts hown hw (h0.1) dX7_sign_14 ?_
    refine lv_bipush (v := 40) hx hb dX7_sign_17 (by decide) ?_
    refine lv_iload_n hx hb dX7_sign_19 rfl (lv_at hl 1 rfl) ?_
    refine lv_imul hx hb dX7_sign_20 ?_
    refine lv_aload_n hx hb dX7_sign_21 rfl (lv_at hl 0 rfl) ?_
    refine gf_X7_132 hx hb hts hown hw (h0.1) dX7_sign_22 ?_
    refine lv_iadd hx hb dX7_sign_25 ?_
    refine lv_topi (fun x_3 ex_3 => ?_)
    replace hp := hp x_3 ex_3
    obtain ⟨hi_4, hp⟩ := hp
    refine r_iald hx hb hw (h0.2.1) hi_4 dX7_sign_26 ?_
    refine lv_goto (tgt := 31) hx hb dX7_sign_27 (by decide) ?_
    exact r_iret hx hb hr hlocks hw hp dX7_sign_31
set_option maxHeartbeats 4000000 in
set_option maxRecDepth 100000 in
theorem w_X7_passLetters_2 {p : Program} {l : Launch} {e : Env} {s : State} {m : MethodId} {args : Array Value} {below : List Frame} {meth : Method} {c : Code} (C : Cx p s m args meth c cX7_passLetters (some .int) 3 RX7) {G : GX} {Sh : SH} {a0 : Nat} {p1 : Int32} {K : Int32 → MI → ML → Prop} (h0 : isModel G Sh a0) : ∀ (n : Nat) (xl2 : Int32) (I : MI) (L : ML) (H : Heap) (locs : List Loc) (ls : Array Slot), wp_X7_passLetters_2 G Sh a0 p1 K n xl2 I L → mW G Sh s I L H locs → lv_has ls 3 [(0, .ref a0), (1, .int p1), (2, .int xl2)] → W p l e (rmA 1 21) s m args below meth c H locs 0 0 (eI below G Sh K args s) (F0 m 2 ls []) := by
  obtain ⟨hx, hb, hr, hml, hown, hts, hlocks⟩ := id C
  intro n
  induction n with
  | zero => intro xl2 I L H locs ls hp hw hl; exact hp.elim
  | succ n hB2 =>
    intro xl2 I L H locs ls hp hw hl
    replace hp : wb_X7_passLetters_2 G Sh a0 p1 K (wp_X7_passLetters_2 G Sh a0 p1 K n) xl2 I L := hp
    unfold wb_X7_passLetters_2 at hp
    refine lv_aload_n hx hb dX7_passLetters_2 rfl (lv_at hl 0 rfl) ?_
    refine lv_iload_n hx hb dX7_passLetters_3 rfl (lv_at hl 1 rfl) ?_
    refine r_cvI (As := [.int p1]) ⟨hx, hb, hml, hown, hts⟩ (c_X7_sign l G (h0) hp) (cw_X7_135 hts ⟨Nat.le_of_ble_eq_true rfl, Nat.le_of_ble_eq_true rfl⟩) hw (hw.recv (h0.1) rfl rfl) rfl rfl hl.1 (Nat.le_of_ble_eq_true rfl) ⟨Nat.zero_le _, Nat.zero_le _⟩ dX7_passLetters_4 (fun r_1 I_2 L_3 H locs hp hw => ?_)
    refine r_csI (As := [.int r_1]) ⟨hx, hb, hml, hown, hts⟩ (c_X7_isLetter l G  hp) (cw_X7_129 hts ⟨Nat.le_of_ble_eq_true rfl, Nat.le_of_ble_eq_true rfl⟩) hw rfl rfl hl.1 (Nat.le_of_ble_eq_true rfl) ⟨Nat.zero_le _, Nat.zero_le _⟩ dX7_passLetters_7 (fun r_4 I_5 L_6 H locs hp hw => ?_)
    refine lv_if_eq (tgt := 39) hx hb dX7_passLetters_10 (by decide) (fun hc_7 => ?_) (fun hc_7 => ?_)
    · replace hp := hp.1 hc_7
      refine lv_iload_n hx hb dX7_passLetters_39 rfl (lv_at hl 2 rfl) ?_
      exact r_iret hx hb hr hlocks hw hp dX7_passLetters_40
    · replace hp := hp.2 hc_7
      refine lv_iload_n hx hb dX7_passLetters_13 rfl (lv_at hl 2 rfl) ?_
      refine lv_aload_n hx hb dX7_passLetters_14 rfl (lv_at hl 0 rfl) ?_
      refine lv_iload_n hx hb dX7_passLetters_15 rfl (lv_at hl 1 rfl) ?_
      refine r_cvI (As := [.int p1]) ⟨hx, hb, hml, hown, hts⟩ (c_X7_sign l G (h0) hp) (cw_X7_135 hts ⟨Nat.le_of_ble_eq_true rfl, Nat.le_of_ble_eq_true rfl⟩) hw (hw.recv (h0.1) rfl rfl) rfl rfl hl.1 (Nat.le_of_ble_eq_true rfl) ⟨Nat.zero_le _, Nat.zero_le _⟩ dX7_passLetters_16 (fun r_8 I_9 L_10 H locs hp hw => ?_)
      refine lv_iadd hx hb dX7_passLetters_19 ?_
      refine lv_bipush (v := 97) hx hb dX7_passLetters_20 (by decide) ?_
      refine lv_isub hx hb dX7_passLetters_22 ?_
      refine lv_iconst (v := 1) hx hb dX7_passLetters_23 (by decide) ?_
      refine lv_iadd hx hb dX7_passLetters_24 ?_
      refine lv_topi (fun x_11 ex_11 => ?_)
      replace hp := hp x_11 ex_11
      refine lv_istore_n (lv' := [(2, .int x_11), (0, .ref a0), (1, .int p1)]) hx hb dX7_passLetters_25 rfl hl (by decide) rfl (fun ls hl => ?_)
      refine lv_aload_n hx hb dX7_passLetters_26 rfl (lv_at hl 1 rfl) ?_
      refine lv_dup hx hb dX7_passLetters_27 rfl ?_
      refine gf_X7_132 hx hb hts hown hw (h0.1) dX7_passLetters_28 ?_
      refine lv_iconst (v := 1) hx hb dX7_passLetters_31 (by decide) ?_
      refine lv_iadd hx hb dX7_passLetters_32 ?_
      refine pf_X7_132 hx hb hts hown hw (h0.1) dX7_passLetters_33 (fun I_12 H locs eI_12 hw => ?_)
      replace hp := hp I_12 eI_12
      refine lv_goto (tgt := 2) hx hb dX7_passLetters_36 (by decide) ?_
      exact hB2 (x_11) _ _ _ _ _ hp hw (lv_sub hl [1, 2, 0] rfl)
set_option maxHeartbeats 4000000 in
set_option maxRecDepth 100000 in
theorem c_X7_passLetters (l : Launch) (G : GX) {Sh : SH} {a0 : Nat} {p1 : Int32} (h0 : isModel G Sh a0) {I : MI} {L : ML} {K : Int32 → MI → ML → Prop} (hp : wp_X7_passLetters G Sh a0 p1 I L K) : CtI l yX7_passLetters (wM yX7_passLetters cX7_passLetters 3 (some .int)) (rmA 1 21) G Sh [.ref a0, .int p1] I L K := by
  refine ofA (own := RX7) (by decide) rfl (Nat.le_of_ble_eq_true rfl) ?_
  intro p e s m args below meth c ls C hw hl
  obtain ⟨hx, hb, hr, hml, hown, hts, hlocks⟩ := id C
  replace hl : lv_has ls 3 [(0, .ref a0), (1, .int p1)] := hl
  unfold wp_X7_passLetters at hp
  refine lv_iconst (v := 0) hx hb dX7_passLetters_0 (by decide) ?_
  refine lv_istore_n (lv' := [(2, .int (0 : Int32)), (0, .ref a0), (1, .int p1)]) hx hb dX7_passLetters_1 rfl hl (by decide) rfl (fun ls hl => ?_)
  obtain ⟨n, hp⟩ := hp
  exact w_X7_passLetters_2 C h0 n ((0 : Int32)) _ _ _ _ _ hp hw (lv_sub hl [1, 2, 0] rfl)
set_option maxHeartbeats 4000000 in
set_option maxRecDepth 100000 in
theorem w_X7_readAll_186 {p : Program} {l : Launch} {e : Env} {s : State} {m : MethodId} {args : Array Value} {below : List Frame} {meth : Method} {c : Code} (C : Cx p s m args meth c cX7_readAll none 6 RX7) {G : GX} {Sh : SH} {a0 : Nat} {p1 : Int32} {B39 : Int32 → Int32 → Int32 → MI → ML → Prop} {K : MI → ML → Prop} (h0 : isModel G Sh a0) (hB39 : ∀ (xl2 : Int32) (xl3 : Int32) (xl4 : Int32) (I : MI) (L : ML) (H : Heap) (locs : List Loc) (ls : Array Slot), B39 xl2 xl3 xl4 I L → mW G Sh s I L H locs → lv_has ls 6 [(0, .ref a0), (1, .int p1), (2, .int xl2), (3, .int xl3), (4, .int xl4)] → W p l e (rmA 2 43) s m args below meth c H locs 0 0 (eV below G Sh K args s) (F0 m 39 ls [])) : ∀ (xl2 : Int32) (xl3 : Int32) (xl4 : Int32) (xs0 : Int32) (I : MI) (L : ML) (H : Heap) (locs : List Loc) (ls : Array Slot), wp_X7_readAll_186 G Sh a0 p1 B39 K xl2 xl3 xl4 xs0 I L → mW G Sh s I L H locs → lv_has ls 6 [(0, .ref a0), (1, .int p1), (2, .int xl2), (3, .int xl3), (4, .int xl4)] → W p l e (rmA 2 43) s m args below meth c H locs 0 0 (eV below G Sh K args s) (F0 m 186 ls [.int xs0, .ref a0]) := by
  obtain ⟨hx, hb, hr, hml, hown, hts, hlocks⟩ := id C
  intro xl2 xl3 xl4 xs0 I L H locs ls hp hw hl
  unfold wp_X7_readAll_186 at hp
  refine pf_X7_132 hx hb hts hown hw (h0.1) dX7_readAll_186 (fun I_42 H locs eI_42 hw => ?_)
  replace hp := hp I_42 eI_42
  refine lv_iload hx hb dX7_readAll_189 (lv_at hl 4 rfl) ?_
  refine lv_if_eq (tgt := 229) hx hb dX7_readAll_191 (by decide) (fun hc_43 => ?_) (fun hc_43 => ?_)
  · replace hp := hp.1 hc_43
    refine lv_goto (tgt := 39) hx hb dX7_readAll_229 (by decide) ?_
    exact hB39 (xl2) (xl3) (xl4) _ _ _ _ _ hp hw (lv_sub hl [0, 1, 2, 3, 4] rfl)
  · replace hp := hp.2 hc_43
    refine lv_aload_n hx hb dX7_readAll_194 rfl (lv_at hl 0 rfl) ?_
    refine lv_iload_n hx hb dX7_readAll_195 rfl (lv_at hl 1 rfl) ?_
    refine r_cvI (As := [.int p1]) ⟨hx, hb, hml, hown, hts⟩ (c_X7_sign l G (h0) hp) (cw_X7_135 hts ⟨Nat.le_of_ble_eq_true rfl, Nat.le_of_ble_eq_true rfl⟩) hw (hw.recv (h0.1) rfl rfl) rfl rfl hl.1 (Nat.le_of_ble_eq_true rfl) ⟨Nat.zero_le _, Nat.zero_le _⟩ dX7_readAll_196 (fun r_44 I_45 L_46 H locs hp hw => ?_)
    refine lv_bipush (v := 38) hx hb dX7_readAll_199 (by decide) ?_
    refine lv_icmp_ne (tgt := 229) hx hb dX7_readAll_201 (by decide) (fun hc_47 => ?_) (fun hc_47 => ?_)
    · replace hp := hp.2 hc_47
      refine lv_goto (tgt := 39) hx hb dX7_readAll_229 (by decide) ?_
      exact hB39 (xl2) (xl3) (xl4) _ _ _ _ _ hp hw (lv_sub hl [0, 1, 2, 3, 4] rfl)
    · replace hp := hp.1 hc_47
      refine lv_iload_n hx hb dX7_readAll_204 rfl (lv_at hl 3 rfl) ?_
      refine lv_if_lt (tgt := 217) hx hb dX7_readAll_205 (by decide) (fun hc_48 => ?_) (fun hc_48 => ?_)
      · replace hp := hp.1 hc_48
        refine lv_iload_n hx hb dX7_readAll_217 rfl (lv_at hl 2 rfl) ?_
        refine lv_istore_n (lv' := [(3, .int xl2), (0, .ref a0), (1, .int p1), (2, .int xl2), (4, .int xl4)]) hx hb dX7_readAll_218 rfl hl (by decide) rfl (fun ls hl => ?_)
        refine lv_aload_n hx hb dX7_readAll_219 rfl (lv_at hl 1 rfl) ?_
        refine lv_dup hx hb dX7_readAll_220 rfl ?_
        refine gf_X7_132 hx hb hts hown hw (h0.1) dX7_readAll_221 ?_
        refine lv_iconst (v := 1) hx hb dX7_readAll_224 (by decide) ?_
        refine lv_iadd hx hb dX7_readAll_225 ?_
        refine pf_X7_132 hx hb hts hown hw (h0.1) dX7_readAll_226 (fun I_49 H locs eI_49 hw => ?_)
        replace hp := hp I_49 eI_49
        refine lv_goto (tgt := 39) hx hb dX7_readAll_229 (by decide) ?_
        exact hB39 (xl2) (xl2) (xl4) _ _ _ _ _ hp hw (lv_sub hl [1, 2, 3, 0, 4] rfl)
      · replace hp := hp.2 hc_48
        refine lv_aload_n hx hb dX7_readAll_208 rfl (lv_at hl 0 rfl) ?_
        refine lv_aload_n hx hb dX7_readAll_209 rfl (lv_at hl 0 rfl) ?_
        refine gf_X7_132 hx hb hts hown hw (h0.1) dX7_readAll_210 ?_
        refine pf_X7_139 hx hb hts hown hw (h0.1) dX7_readAll_213 (fun I_50 H locs eI_50 hw => ?_)
        replace hp := hp I_50 eI_50
        exact r_vret hx hb hr hlocks hw hp dX7_readAll_216
set_option maxHeartbeats 4000000 in
set_option maxRecDepth 100000 in
theorem w_X7_readAll_167 {p : Program} {l : Launch} {e : Env} {s : State} {m : MethodId} {args : Array Value} {below : List Frame} {meth : Method} {c : Code} (C : Cx p s m args meth c cX7_readAll none 6 RX7) {G : GX} {Sh : SH} {a0 : Nat} {p1 : Int32} {B39 : Int32 → Int32 → Int32 → MI → ML → Prop} {K : MI → ML → Prop} (h0 : isModel G Sh a0) (hB39 : ∀ (xl2 : Int32) (xl3 : Int32) (xl4 : Int32) (I : MI) (L : ML) (H : Heap) (locs : List Loc) (ls : Array Slot), B39 xl2 xl3 xl4 I L → mW G Sh s I L H locs → lv_has ls 6 [(0, .ref a0), (1, .int p1), (2, .int xl2), (3, .int xl3), (4, .int xl4)] → W p l e (rmA 2 43) s m args below meth c H locs 0 0 (eV below G Sh K args s) (F0 m 39 ls [])) : ∀ (xl2 : Int32) (xl3 : Int32) (xl4 : Int32) (I : MI) (L : ML) (H : Heap) (locs : List Loc) (ls : Array Slot), wp_X7_readAll_167 G Sh a0 p1 B39 K xl2 xl3 xl4 I L → mW G Sh s I L H locs → lv_has ls 6 [(0, .ref a0), (1, .int p1), (2, .int xl2), (3, .int xl3), (4, .int xl4)] → W p l e (rmA 2 43) s m args below meth c H locs 0 0 (eV below G Sh K args s) (F0 m 167 ls []) := by
  obtain ⟨hx, hb, hr, hml, hown, hts, hlocks⟩ := id C
  intro xl2 xl3 xl4 I L H locs ls hp hw hl
  unfold wp_X7_readAll_167 at hp
  refine lv_aload_n hx hb dX7_readAll_167 rfl (lv_at hl 0 rfl) ?_
  refine lv_iload hx hb dX7_readAll_168 (lv_at hl 4 rfl) ?_
  refine lv_if_eq (tgt := 182) hx hb dX7_readAll_170 (by decide) (fun hc_41 => ?_) (fun hc_41 => ?_)
  · replace hp := hp.1 hc_41
    refine lv_aload_n hx hb dX7_readAll_182 rfl (lv_at hl 0 rfl) ?_
    refine gf_X7_132 hx hb hts hown hw (h0.1) dX7_readAll_183 ?_
    exact w_X7_readAll_186 C h0 hB39 (xl2) (xl3) (xl4) ((I a0 36)) _ _ _ _ _ hp hw (lv_sub hl [0, 1, 2, 3, 4] rfl)
  · replace hp := hp.2 hc_41
    refine lv_aload_n hx hb dX7_readAll_173 rfl (lv_at hl 0 rfl) ?_
    refine gf_X7_132 hx hb hts hown hw (h0.1) dX7_readAll_174 ?_
    refine lv_iconst (v := 1) hx hb dX7_readAll_177 (by decide) ?_
    refine lv_iadd hx hb dX7_readAll_178 ?_
    refine lv_goto (tgt := 186) hx hb dX7_readAll_179 (by decide) ?_
    exact w_X7_readAll_186 C h0 hB39 (xl2) (xl3) (xl4) (((I a0 36) + (1 : Int32))) _ _ _ _ _ hp hw (lv_sub hl [0, 1, 2, 3, 4] rfl)
set_option maxHeartbeats 4000000 in
set_option maxRecDepth 100000 in
theorem w_X7_readAll_147 {p : Program} {l : Launch} {e : Env} {s : State} {m : MethodId} {args : Array Value} {below : List Frame} {meth : Method} {c : Code} (C : Cx p s m args meth c cX7_readAll none 6 RX7) {G : GX} {Sh : SH} {a0 : Nat} {p1 : Int32} {B39 : Int32 → Int32 → Int32 → MI → ML → Prop} {K : MI → ML → Prop} (h0 : isModel G Sh a0) (hB39 : ∀ (xl2 : Int32) (xl3 : Int32) (xl4 : Int32) (I : MI) (L : ML) (H : Heap) (locs : List Loc) (ls : Array Slot), B39 xl2 xl3 xl4 I L → mW G Sh s I L H locs → lv_has ls 6 [(0, .ref a0), (1, .int p1), (2, .int xl2), (3, .int xl3), (4, .int xl4)] → W p l e (rmA 2 43) s m args below meth c H locs 0 0 (eV below G Sh K args s) (F0 m 39 ls [])) : ∀ (xl2 : Int32) (xl3 : Int32) (xl4 : Int32) (I : MI) (L : ML) (H : Heap) (locs : List Loc) (ls : Array Slot), wp_X7_readAll_147 G Sh a0 p1 B39 K xl2 xl3 xl4 I L → mW G Sh s I L H locs → lv_has ls 6 [(0, .ref a0), (1, .int p1), (2, .int xl2), (3, .int xl3), (4, .int xl4)] → W p l e (rmA 2 43) s m args below meth c H locs 0 0 (eV below G Sh K args s) (F0 m 147 ls []) := by
  obtain ⟨hx, hb, hr, hml, hown, hts, hlocks⟩ := id C
  intro xl2 xl3 xl4 I L H locs ls hp hw hl
  unfold wp_X7_readAll_147 at hp
  refine lv_iload hx hb dX7_readAll_147 (lv_at hl 4 rfl) ?_
  refine lv_if_eq (tgt := 167) hx hb dX7_readAll_149 (by decide) (fun hc_38 => ?_) (fun hc_38 => ?_)
  · replace hp := hp.1 hc_38
    exact w_X7_readAll_167 C h0 hB39 (xl2) (xl3) (xl4) _ _ _ _ _ hp hw (lv_sub hl [0, 1, 2, 3, 4] rfl)
  · replace hp := hp.2 hc_38
    refine lv_iload_n hx hb dX7_readAll_152 rfl (lv_at hl 2 rfl) ?_
    refine lv_bipush (v := 12) hx hb dX7_readAll_153 (by decide) ?_
    refine lv_icmp_ne (tgt := 167) hx hb dX7_readAll_155 (by decide) (fun hc_39 => ?_) (fun hc_39 => ?_)
    · replace hp := hp.2 hc_39
      exact w_X7_readAll_167 C h0 hB39 (xl2) (xl3) (xl4) _ _ _ _ _ hp hw (lv_sub hl [0, 1, 2, 3, 4] rfl)
    · replace hp := hp.1 hc_39
      refine lv_aload_n hx hb dX7_readAll_158 rfl (lv_at hl 0 rfl) ?_
      refine lv_aload_n hx hb dX7_readAll_159 rfl (lv_at hl 0 rfl) ?_
      refine gf_X7_132 hx hb hts hown hw (h0.1) dX7_readAll_160 ?_
      refine pf_X7_139 hx hb hts hown hw (h0.1) dX7_readAll_163 (fun I_40 H locs eI_40 hw => ?_)
      replace hp := hp I_40 eI_40
      exact r_vret hx hb hr hlocks hw hp dX7_readAll_166
set_option maxHeartbeats 4000000 in
set_option maxRecDepth 100000 in
theorem w_X7_readAll_127 {p : Program} {l : Launch} {e : Env} {s : State} {m : MethodId} {args : Array Value} {below : List Frame} {meth : Method} {c : Code} (C : Cx p s m args meth c cX7_readAll none 6 RX7) {G : GX} {Sh : SH} {a0 : Nat} {p1 : Int32} {B39 : Int32 → Int32 → Int32 → MI → ML → Prop} {K : MI → ML → Prop} (h0 : isModel G Sh a0) (hB39 : ∀ (xl2 : Int32) (xl3 : Int32) (xl4 : Int32) (I : MI) (L : ML) (H : Heap) (locs : List Loc) (ls : Array Slot), B39 xl2 xl3 xl4 I L → mW G Sh s I L H locs → lv_has ls 6 [(0, .ref a0), (1, .int p1), (2, .int xl2), (3, .int xl3), (4, .int xl4)] → W p l e (rmA 2 43) s m args below meth c H locs 0 0 (eV below G Sh K args s) (F0 m 39 ls [])) : ∀ (xl2 : Int32) (xl3 : Int32) (xs0 : Int32) (I : MI) (L : ML) (H : Heap) (locs : List Loc) (ls : Array Slot), wp_X7_readAll_127 G Sh a0 p1 B39 K xl2 xl3 xs0 I L → mW G Sh s I L H locs → lv_has ls 6 [(0, .ref a0), (1, .int p1), (2, .int xl2), (3, .int xl3)] → W p l e (rmA 2 43) s m args below meth c H locs 0 0 (eV below G Sh K args s) (F0 m 127 ls [.int xs0]) := by
  obtain ⟨hx, hb, hr, hml, hown, hts, hlocks⟩ := id C
  intro xl2 xl3 xs0 I L H locs ls hp hw hl
  unfold wp_X7_readAll_127 at hp
  refine lv_istore (lv' := [(4, .int xs0), (0, .ref a0), (1, .int p1), (2, .int xl2), (3, .int xl3)]) hx hb dX7_readAll_127 hl (by decide) rfl (fun ls hl => ?_)
  refine lv_iload hx hb dX7_readAll_129 (lv_at hl 0 rfl) ?_
  refine lv_if_ne (tgt := 147) hx hb dX7_readAll_131 (by decide) (fun hc_34 => ?_) (fun hc_34 => ?_)
  · replace hp := hp.2 hc_34
    exact w_X7_readAll_147 C h0 hB39 (xl2) (xl3) (xs0) _ _ _ _ _ hp hw (lv_sub hl [1, 2, 3, 4, 0] rfl)
  · replace hp := hp.1 hc_34
    refine lv_aload_n hx hb dX7_readAll_134 rfl (lv_at hl 1 rfl) ?_
    refine gf_X7_132 hx hb hts hown hw (h0.1) dX7_readAll_135 ?_
    refine lv_aload_n hx hb dX7_readAll_138 rfl (lv_at hl 1 rfl) ?_
    refine gf_X7_13 hx hb hts hown hw (h0.1) dX7_readAll_139 ?_
    refine lv_iload_n hx hb dX7_readAll_142 rfl (lv_at hl 2 rfl) ?_
    obtain ⟨hi_35, hp⟩ := hp
    refine r_iald hx hb hw (h0.2.2.1) hi_35 dX7_readAll_143 ?_
    refine lv_icmp_lt (tgt := 158) hx hb dX7_readAll_144 (by decide) (fun hc_36 => ?_) (fun hc_36 => ?_)
    · replace hp := hp.1 hc_36
      refine lv_aload_n hx hb dX7_readAll_158 rfl (lv_at hl 1 rfl) ?_
      refine lv_aload_n hx hb dX7_readAll_159 rfl (lv_at hl 1 rfl) ?_
      refine gf_X7_132 hx hb hts hown hw (h0.1) dX7_readAll_160 ?_
      refine pf_X7_139 hx hb hts hown hw (h0.1) dX7_readAll_163 (fun I_37 H locs eI_37 hw => ?_)
      replace hp := hp I_37 eI_37
      exact r_vret hx hb hr hlocks hw hp dX7_readAll_166
    · replace hp := hp.2 hc_36
      exact w_X7_readAll_147 C h0 hB39 (xl2) (xl3) (xs0) _ _ _ _ _ hp hw (lv_sub hl [1, 2, 3, 4, 0] rfl)
set_option maxHeartbeats 4000000 in
set_option maxRecDepth 100000 in
theorem w_X7_readAll_39 {p : Program} {l : Launch} {e : Env} {s : State} {m : MethodId} {args : Array Value} {below : List Frame} {meth : Method} {c : Code} (C : Cx p s m args meth c cX7_readAll none 6 RX7) {G : GX} {Sh : SH} {a0 : Nat} {p1 : Int32} {K : MI → ML → Prop} (h0 : isModel G Sh a0) : ∀ (n : Nat) (xl2 : Int32) (xl3 : Int32) (xl4 : Int32) (I : MI) (L : ML) (H : Heap) (locs : List Loc) (ls : Array Slot), wp_X7_readAll_39 G Sh a0 p1 K n xl2 xl3 xl4 I L → mW G Sh s I L H locs → lv_has ls 6 [(0, .ref a0), (1, .int p1), (2, .int xl2), (3, .int xl3), (4, .int xl4)] → W p l e (rmA 2 43) s m args below meth c H locs 0 0 (eV below G Sh K args s) (F0 m 39 ls []) := by
  obtain ⟨hx, hb, hr, hml, hown, hts, hlocks⟩ := id C
  intro n
  induction n with
  | zero => intro xl2 xl3 xl4 I L H locs ls hp hw hl; exact hp.elim
  | succ n hB39 =>
    intro xl2 xl3 xl4 I L H locs ls hp hw hl
    replace hp : wb_X7_readAll_39 G Sh a0 p1 K (wp_X7_readAll_39 G Sh a0 p1 K n) xl2 xl3 xl4 I L := hp
    unfold wb_X7_readAll_39 at hp
    refine lv_iload hx hb dX7_readAll_39 (lv_at hl 4 rfl) ?_
    refine lv_if_eq (tgt := 232) hx hb dX7_readAll_41 (by decide) (fun hc_8 => ?_) (fun hc_8 => ?_)
    · replace hp := hp.1 hc_8
      refine lv_aload_n hx hb dX7_readAll_232 rfl (lv_at hl 0 rfl) ?_
      refine gf_X7_20 hx hb hts hown hw (h0.1) dX7_readAll_233 ?_
      refine lv_iload_n hx hb dX7_readAll_236 rfl (lv_at hl 1 rfl) ?_
      refine lv_iload_n hx hb dX7_readAll_237 rfl (lv_at hl 2 rfl) ?_
      obtain ⟨hi_9, hp⟩ := hp
      refine r_iast hx hb hw (h0.2.2.2.2.1) hi_9 dX7_readAll_238 (fun I_10 H locs eI_10 hw => ?_)
      replace hp := hp I_10 eI_10
      refine lv_aload_n hx hb dX7_readAll_239 rfl (lv_at hl 0 rfl) ?_
      refine gf_X7_23 hx hb hts hown hw (h0.1) dX7_readAll_240 ?_
      refine lv_iload_n hx hb dX7_readAll_243 rfl (lv_at hl 1 rfl) ?_
      refine lv_iload_n hx hb dX7_readAll_244 rfl (lv_at hl 3 rfl) ?_
      obtain ⟨hi_11, hp⟩ := hp
      refine r_iast hx hb hw (h0.2.2.2.2.2.1) hi_11 dX7_readAll_245 (fun I_12 H locs eI_12 hw => ?_)
      replace hp := hp I_12 eI_12
      exact r_vret hx hb hr hlocks hw hp dX7_readAll_246
    · replace hp := hp.2 hc_8
      refine lv_aload_n hx hb dX7_readAll_44 rfl (lv_at hl 0 rfl) ?_
      refine lv_iload_n hx hb dX7_readAll_45 rfl (lv_at hl 1 rfl) ?_
      refine r_cvI (As := [.int p1]) ⟨hx, hb, hml, hown, hts⟩ (c_X7_passLetters l G (h0) hp) (cw_X7_142 hts ⟨Nat.le_of_ble_eq_true rfl, Nat.le_of_ble_eq_true rfl⟩) hw (hw.recv (h0.1) rfl rfl) rfl rfl hl.1 (Nat.le_of_ble_eq_true rfl) ⟨Nat.zero_le _, Nat.zero_le _⟩ dX7_readAll_46 (fun r_13 I_14 L_15 H locs hp hw => ?_)
      refine lv_istore (lv' := [(5, .int r_13), (0, .ref a0), (1, .int p1), (2, .int xl2), (3, .int xl3), (4, .int xl4)]) hx hb dX7_readAll_49 hl (by decide) rfl (fun ls hl => ?_)
      refine lv_aload_n hx hb dX7_readAll_51 rfl (lv_at hl 1 rfl) ?_
      refine lv_iload_n hx hb dX7_readAll_52 rfl (lv_at hl 2 rfl) ?_
      refine r_cvI (As := [.int p1]) ⟨hx, hb, hml, hown, hts⟩ (c_X7_sign l G (h0) hp) (cw_X7_135 hts ⟨Nat.le_of_ble_eq_true rfl, Nat.le_of_ble_eq_true rfl⟩) hw (hw.recv (h0.1) rfl rfl) rfl rfl hl.1 (Nat.le_of_ble_eq_true rfl) ⟨Nat.zero_le _, Nat.zero_le _⟩ dX7_readAll_53 (fun r_16 I_17 L_18 H locs hp hw => ?_)
      refine lv_bipush (v := 35) hx hb dX7_readAll_56 (by decide) ?_
      refine lv_icmp_eq (tgt := 70) hx hb dX7_readAll_58 (by decide) (fun hc_19 => ?_) (fun hc_19 => ?_)
      · replace hp := hp.1 hc_19
        refine lv_aload_n hx hb dX7_readAll_70 rfl (lv_at hl 1 rfl) ?_
        refine lv_dup hx hb dX7_readAll_71 rfl ?_
        refine gf_X7_132 hx hb hts hown hw (h0.1) dX7_readAll_72 ?_
        refine lv_iconst (v := 1) hx hb dX7_readAll_75 (by decide) ?_
        refine lv_iadd hx hb dX7_readAll_76 ?_
        refine pf_X7_132 hx hb hts hown hw (h0.1) dX7_readAll_77 (fun I_20 H locs eI_20 hw => ?_)
        replace hp := hp I_20 eI_20
        refine lv_aload_n hx hb dX7_readAll_80 rfl (lv_at hl 1 rfl) ?_
        refine gf_X7_26 hx hb hts hown hw (h0.1) dX7_readAll_81 ?_
        refine lv_bipush (v := 12) hx hb dX7_readAll_84 (by decide) ?_
        refine lv_iload_n hx hb dX7_readAll_86 rfl (lv_at hl 2 rfl) ?_
        refine lv_imul hx hb dX7_readAll_87 ?_
        refine lv_iload_n hx hb dX7_readAll_88 rfl (lv_at hl 3 rfl) ?_
        refine lv_iadd hx hb dX7_readAll_89 ?_
        refine lv_iload hx hb dX7_readAll_90 (lv_at hl 0 rfl) ?_
        obtain ⟨hi_21, hp⟩ := hp
        refine r_iast hx hb hw (h0.2.2.2.2.2.2.1) hi_21 dX7_readAll_92 (fun I_22 H locs eI_22 hw => ?_)
        replace hp := hp I_22 eI_22
        refine lv_aload_n hx hb dX7_readAll_93 rfl (lv_at hl 1 rfl) ?_
        refine gf_X7_29 hx hb hts hown hw (h0.1) dX7_readAll_94 ?_
        refine lv_bipush (v := 12) hx hb dX7_readAll_97 (by decide) ?_
        refine lv_iload_n hx hb dX7_readAll_99 rfl (lv_at hl 2 rfl) ?_
        refine lv_imul hx hb dX7_readAll_100 ?_
        refine lv_iload_n hx hb dX7_readAll_101 rfl (lv_at hl 3 rfl) ?_
        refine lv_iadd hx hb dX7_readAll_102 ?_
        refine lv_aload_n hx hb dX7_readAll_103 rfl (lv_at hl 1 rfl) ?_
        refine lv_iload_n hx hb dX7_readAll_104 rfl (lv_at hl 2 rfl) ?_
        refine r_cvI (As := [.int p1]) ⟨hx, hb, hml, hown, hts⟩ (c_X7_passLetters l G (h0) hp) (cw_X7_142 hts ⟨Nat.le_of_ble_eq_true rfl, Nat.le_of_ble_eq_true rfl⟩) hw (hw.recv (h0.1) rfl rfl) rfl rfl hl.1 (Nat.le_of_ble_eq_true rfl) ⟨Nat.zero_le _, Nat.zero_le _⟩ dX7_readAll_105 (fun r_23 I_24 L_25 H locs hp hw => ?_)
        obtain ⟨hi_26, hp⟩ := hp
        refine r_iast hx hb hw (h0.2.2.2.2.2.2.2.1) hi_26 dX7_readAll_108 (fun I_27 H locs eI_27 hw => ?_)
        replace hp := hp I_27 eI_27
        obtain ⟨x_28, ex_28⟩ : ∃ z : Int32, z = xl2 + (1 : Int32) := ⟨_, rfl⟩
        replace hp := hp x_28 ex_28
        refine lv_iinc (v := x_28) (lv' := [(2, .int x_28), (5, .int r_13), (0, .ref a0), (1, .int p1), (3, .int xl3), (4, .int xl4)]) hx hb dX7_readAll_109 hl (k := 3) rfl (by rw [ex_28]; rfl) (by decide) rfl (fun ls hl => ?_)
        refine lv_aload_n hx hb dX7_readAll_112 rfl (lv_at hl 2 rfl) ?_
        refine lv_iload_n hx hb dX7_readAll_113 rfl (lv_at hl 3 rfl) ?_
        refine r_cvI (As := [.int p1]) ⟨hx, hb, hml, hown, hts⟩ (c_X7_sign l G (h0) hp) (cw_X7_135 hts ⟨Nat.le_of_ble_eq_true rfl, Nat.le_of_ble_eq_true rfl⟩) hw (hw.recv (h0.1) rfl rfl) rfl rfl hl.1 (Nat.le_of_ble_eq_true rfl) ⟨Nat.zero_le _, Nat.zero_le _⟩ dX7_readAll_114 (fun r_29 I_30 L_31 H locs hp hw => ?_)
        refine lv_bipush (v := 38) hx hb dX7_readAll_117 (by decide) ?_
        refine lv_icmp_ne (tgt := 126) hx hb dX7_readAll_119 (by decide) (fun hc_32 => ?_) (fun hc_32 => ?_)
        · replace hp := hp.2 hc_32
          refine lv_iconst (v := 0) hx hb dX7_readAll_126 (by decide) ?_
          exact w_X7_readAll_127 C h0 hB39 (x_28) (xl3) ((0 : Int32)) _ _ _ _ _ hp hw (lv_sub hl [2, 3, 0, 4] rfl)
        · replace hp := hp.1 hc_32
          refine lv_iconst (v := 1) hx hb dX7_readAll_122 (by decide) ?_
          refine lv_goto (tgt := 127) hx hb dX7_readAll_123 (by decide) ?_
          exact w_X7_readAll_127 C h0 hB39 (x_28) (xl3) ((1 : Int32)) _ _ _ _ _ hp hw (lv_sub hl [2, 3, 0, 4] rfl)
      · replace hp := hp.2 hc_19
        refine lv_aload_n hx hb dX7_readAll_61 rfl (lv_at hl 1 rfl) ?_
        refine lv_aload_n hx hb dX7_readAll_62 rfl (lv_at hl 1 rfl) ?_
        refine gf_X7_132 hx hb hts hown hw (h0.1) dX7_readAll_63 ?_
        refine pf_X7_139 hx hb hts hown hw (h0.1) dX7_readAll_66 (fun I_33 H locs eI_33 hw => ?_)
        replace hp := hp I_33 eI_33
        exact r_vret hx hb hr hlocks hw hp dX7_readAll_69
set_option maxHeartbeats 4000000 in
set_option maxRecDepth 100000 in
theorem c_X7_readAll (l : Launch) (G : GX) {Sh : SH} {a0 : Nat} {p1 : Int32} (h0 : isModel G Sh a0) {I : MI} {L : ML} {K : MI → ML → Prop} (hp : wp_X7_readAll G Sh a0 p1 I L K) : CtV l yX7_readAll (wM yX7_readAll cX7_readAll 6 none) (rmA 2 43) G Sh [.ref a0, .int p1] I L K := by
  refine ofA (own := RX7) (by decide) rfl (Nat.le_of_ble_eq_true rfl) ?_
  intro p e s m args below meth c ls C hw hl
  obtain ⟨hx, hb, hr, hml, hown, hts, hlocks⟩ := id C
  replace hl : lv_has ls 6 [(0, .ref a0), (1, .int p1)] := hl
  unfold wp_X7_readAll at hp
  refine lv_aload_n hx hb dX7_readAll_0 rfl (lv_at hl 0 rfl) ?_
  refine lv_iconst (v := 0) hx hb dX7_readAll_1 (by decide) ?_
  refine pf_X7_132 hx hb hts hown hw (h0.1) dX7_readAll_2 (fun I_1 H locs eI_1 hw => ?_)
  replace hp := hp I_1 eI_1
  refine lv_aload_n hx hb dX7_readAll_5 rfl (lv_at hl 0 rfl) ?_
  refine lv_iconst (v := (-1)) hx hb dX7_readAll_6 (by decide) ?_
  refine pf_X7_139 hx hb hts hown hw (h0.1) dX7_readAll_7 (fun I_2 H locs eI_2 hw => ?_)
  replace hp := hp I_2 eI_2
  refine lv_iconst (v := 0) hx hb dX7_readAll_10 (by decide) ?_
  refine lv_istore_n (lv' := [(2, .int (0 : Int32)), (0, .ref a0), (1, .int p1)]) hx hb dX7_readAll_11 rfl hl (by decide) rfl (fun ls hl => ?_)
  refine lv_iconst (v := (-1)) hx hb dX7_readAll_12 (by decide) ?_
  refine lv_istore_n (lv' := [(3, .int (-1 : Int32)), (2, .int (0 : Int32)), (0, .ref a0), (1, .int p1)]) hx hb dX7_readAll_13 rfl hl (by decide) rfl (fun ls hl => ?_)
  refine lv_aload_n hx hb dX7_readAll_14 rfl (lv_at hl 2 rfl) ?_
  refine lv_iload_n hx hb dX7_readAll_15 rfl (lv_at hl 3 rfl) ?_
  refine r_cvI (As := [.int p1]) ⟨hx, hb, hml, hown, hts⟩ (c_X7_sign l G (h0) hp) (cw_X7_135 hts ⟨Nat.le_of_ble_eq_true rfl, Nat.le_of_ble_eq_true rfl⟩) hw (hw.recv (h0.1) rfl rfl) rfl rfl hl.1 (Nat.le_of_ble_eq_true rfl) ⟨Nat.zero_le _, Nat.zero_le _⟩ dX7_readAll_16 (fun r_3 I_4 L_5 H locs hp hw => ?_)
  refine lv_bipush (v := 38) hx hb dX7_readAll_19 (by decide) ?_
  refine lv_icmp_ne (tgt := 36) hx hb dX7_readAll_21 (by decide) (fun hc_6 => ?_) (fun hc_6 => ?_)
  · replace hp := hp.2 hc_6
    refine lv_iconst (v := 1) hx hb dX7_readAll_36 (by decide) ?_
    refine lv_istore (lv' := [(4, .int (1 : Int32)), (3, .int (-1 : Int32)), (2, .int (0 : Int32)), (0, .ref a0), (1, .int p1)]) hx hb dX7_readAll_37 hl (by decide) rfl (fun ls hl => ?_)
    obtain ⟨n, hp⟩ := hp
    exact w_X7_readAll_39 C h0 n ((0 : Int32)) ((-1 : Int32)) ((1 : Int32)) _ _ _ _ _ hp hw (lv_sub hl [3, 4, 2, 1, 0] rfl)
  · replace hp := hp.1 hc_6
    refine lv_iconst (v := 0) hx hb dX7_readAll_24 (by decide) ?_
    refine lv_istore_n (lv' := [(3, .int (0 : Int32)), (2, .int (0 : Int32)), (0, .ref a0), (1, .int p1)]) hx hb dX7_readAll_25 rfl hl (by decide) rfl (fun ls hl => ?_)
    refine lv_aload_n hx hb dX7_readAll_26 rfl (lv_at hl 2 rfl) ?_
    refine lv_dup hx hb dX7_readAll_27 rfl ?_
    refine gf_X7_132 hx hb hts hown hw (h0.1) dX7_readAll_28 ?_
    refine lv_iconst (v := 1) hx hb dX7_readAll_31 (by decide) ?_
    refine lv_iadd hx hb dX7_readAll_32 ?_
    refine pf_X7_132 hx hb hts hown hw (h0.1) dX7_readAll_33 (fun I_7 H locs eI_7 hw => ?_)
    replace hp := hp I_7 eI_7
    refine lv_iconst (v := 1) hx hb dX7_readAll_36 (by decide) ?_
    refine lv_istore (lv' := [(4, .int (1 : Int32)), (3, .int (0 : Int32)), (2, .int (0 : Int32)), (0, .ref a0), (1, .int p1)]) hx hb dX7_readAll_37 hl (by decide) rfl (fun ls hl => ?_)
    obtain ⟨n, hp⟩ := hp
    exact w_X7_readAll_39 C h0 n ((0 : Int32)) ((0 : Int32)) ((1 : Int32)) _ _ _ _ _ hp hw (lv_sub hl [3, 4, 2, 1, 0] rfl)
set_option maxHeartbeats 4000000 in
set_option maxRecDepth 100000 in
theorem c_X7_lay (l : Launch) (G : GX) {Sh : SH} {a0 : Nat} {p1 : Int32} (h0 : isModel G Sh a0) {I : MI} {L : ML} {K : Int32 → MI → ML → Prop} (hp : wp_X7_lay G Sh a0 p1 I L K) : CtI l yX7_lay (wM yX7_lay cX7_lay 2 (some .int)) (rmA 3 68) G Sh [.ref a0, .int p1] I L K := by
  refine ofA (own := RX7) (by decide) rfl (Nat.le_of_ble_eq_true rfl) ?_
  intro p e s m args below meth c ls C hw hl
  obtain ⟨hx, hb, hr, hml, hown, hts, hlocks⟩ := id C
  replace hl : lv_has ls 2 [(0, .ref a0), (1, .int p1)] := hl
  unfold wp_X7_lay at hp
  refine lv_aload_n hx hb dX7_lay_0 rfl (lv_at hl 0 rfl) ?_
  refine lv_iconst (v := 0) hx hb dX7_lay_1 (by decide) ?_
  refine pf_X7_114 hx hb hts hown hw (h0.1) dX7_lay_2 (fun I_1 H locs eI_1 hw => ?_)
  replace hp := hp I_1 eI_1
  refine lv_aload_n hx hb dX7_lay_5 rfl (lv_at hl 0 rfl) ?_
  refine lv_iload_n hx hb dX7_lay_6 rfl (lv_at hl 1 rfl) ?_
  refine r_cvI (As := [.int p1]) ⟨hx, hb, hml, hown, hts⟩ (c_X7_isTable l G (h0) hp) (cw_X7_121 hts ⟨Nat.le_of_ble_eq_true rfl, Nat.le_of_ble_eq_true rfl⟩) hw (hw.recv (h0.1) rfl rfl) rfl rfl hl.1 (Nat.le_of_ble_eq_true rfl) ⟨Nat.zero_le _, Nat.zero_le _⟩ dX7_lay_7 (fun r_2 I_3 L_4 H locs hp hw => ?_)
  refine lv_if_ne (tgt := 15) hx hb dX7_lay_10 (by decide) (fun hc_5 => ?_) (fun hc_5 => ?_)
  · replace hp := hp.2 hc_5
    refine lv_aload_n hx hb dX7_lay_15 rfl (lv_at hl 0 rfl) ?_
    refine gf_X7_16 hx hb hts hown hw (h0.1) dX7_lay_16 ?_
    refine lv_iload_n hx hb dX7_lay_19 rfl (lv_at hl 1 rfl) ?_
    obtain ⟨hi_6, hp⟩ := hp
    refine r_zald hx hb hw (h0.2.2.2.1) hi_6 dX7_lay_20 ?_
    refine lv_if_eq (tgt := 27) hx hb dX7_lay_21 (by decide) (fun hc_7 => ?_) (fun hc_7 => ?_)
    · replace hp := hp.1 hc_7
      refine lv_aload_n hx hb dX7_lay_27 rfl (lv_at hl 0 rfl) ?_
      refine lv_iload_n hx hb dX7_lay_28 rfl (lv_at hl 1 rfl) ?_
      refine r_cvV (As := [.int p1]) ⟨hx, hb, hml, hown, hts⟩ (c_X7_readAll l G (h0) hp) (cw_X7_145 hts ⟨Nat.le_of_ble_eq_true rfl, Nat.le_of_ble_eq_true rfl⟩) hw (hw.recv (h0.1) rfl rfl) rfl rfl hl.1 (Nat.le_of_ble_eq_true rfl) ⟨Nat.zero_le _, Nat.zero_le _⟩ dX7_lay_29 (fun I_9 L_10 H locs hp hw => ?_)
      refine lv_aload_n hx hb dX7_lay_32 rfl (lv_at hl 0 rfl) ?_
      refine gf_X7_139 hx hb hts hown hw (h0.1) dX7_lay_33 ?_
      refine lv_if_lt (tgt := 54) hx hb dX7_lay_36 (by decide) (fun hc_11 => ?_) (fun hc_11 => ?_)
      · replace hp := hp.1 hc_11
        refine lv_aload_n hx hb dX7_lay_54 rfl (lv_at hl 0 rfl) ?_
        refine gf_X7_16 hx hb hts hown hw (h0.1) dX7_lay_55 ?_
        refine lv_iload_n hx hb dX7_lay_58 rfl (lv_at hl 1 rfl) ?_
        refine lv_iconst (v := 1) hx hb dX7_lay_59 (by decide) ?_
        obtain ⟨hi_12, hp⟩ := hp
        refine r_zast (y := (1 : Int32)) hx hb hw (h0.2.2.2.1) hi_12 rfl dX7_lay_60 (fun I_13 H locs eI_13 hw => ?_)
        replace hp := hp I_13 eI_13
        refine lv_aload_n hx hb dX7_lay_61 rfl (lv_at hl 0 rfl) ?_
        refine gf_X7_20 hx hb hts hown hw (h0.1) dX7_lay_62 ?_
        refine lv_iload_n hx hb dX7_lay_65 rfl (lv_at hl 1 rfl) ?_
        obtain ⟨hi_14, hp⟩ := hp
        refine r_iald hx hb hw (h0.2.2.2.2.1) hi_14 dX7_lay_66 ?_
        exact r_iret hx hb hr hlocks hw hp dX7_lay_67
      · replace hp := hp.2 hc_11
        refine lv_aload_n hx hb dX7_lay_39 rfl (lv_at hl 0 rfl) ?_
        refine gf_X7_13 hx hb hts hown hw (h0.1) dX7_lay_40 ?_
        refine lv_iload_n hx hb dX7_lay_43 rfl (lv_at hl 1 rfl) ?_
        refine lv_iconst (v := 0) hx hb dX7_lay_44 (by decide) ?_
        obtain ⟨hi_15, hp⟩ := hp
        refine r_iast hx hb hw (h0.2.2.1) hi_15 dX7_lay_45 (fun I_16 H locs eI_16 hw => ?_)
        replace hp := hp I_16 eI_16
        refine lv_bipush (v := (-10)) hx hb dX7_lay_46 (by decide) ?_
        refine lv_aload_n hx hb dX7_lay_48 rfl (lv_at hl 0 rfl) ?_
        refine gf_X7_139 hx hb hts hown hw (h0.1) dX7_lay_49 ?_
        refine lv_isub hx hb dX7_lay_52 ?_
        exact r_iret hx hb hr hlocks hw hp dX7_lay_53
    · replace hp := hp.2 hc_7
      refine lv_bipush (v := (-3)) hx hb dX7_lay_24 (by decide) ?_
      exact r_iret hx hb hr hlocks hw hp dX7_lay_26
  · replace hp := hp.1 hc_5
    refine lv_iconst (v := (-1)) hx hb dX7_lay_13 (by decide) ?_
    exact r_iret hx hb hr hlocks hw hp dX7_lay_14
set_option maxHeartbeats 4000000 in
set_option maxRecDepth 100000 in
theorem c_X7_nest (l : Launch) (G : GX) {Sh : SH} {a0 : Nat} {p1 : Int32} {p2 : Int32} {p3 : Int32} (h0 : isModel G Sh a0) {I : MI} {L : ML} {K : Int32 → MI → ML → Prop} (hp : wp_X7_nest G Sh a0 p1 p2 p3 I L K) : CtI l yX7_nest (wM yX7_nest cX7_nest 4 (some .int)) (rmA 2 47) G Sh [.ref a0, .int p1, .int p2, .int p3] I L K := by
  refine ofA (own := RX7) (by decide) rfl (Nat.le_of_ble_eq_true rfl) ?_
  intro p e s m args below meth c ls C hw hl
  obtain ⟨hx, hb, hr, hml, hown, hts, hlocks⟩ := id C
  replace hl : lv_has ls 4 [(0, .ref a0), (1, .int p1), (2, .int p2), (3, .int p3)] := hl
  unfold wp_X7_nest at hp
  refine lv_aload_n hx hb dX7_nest_0 rfl (lv_at hl 0 rfl) ?_
  refine lv_iconst (v := 0) hx hb dX7_nest_1 (by decide) ?_
  refine pf_X7_114 hx hb hts hown hw (h0.1) dX7_nest_2 (fun I_1 H locs eI_1 hw => ?_)
  replace hp := hp I_1 eI_1
  refine lv_aload_n hx hb dX7_nest_5 rfl (lv_at hl 0 rfl) ?_
  refine lv_iload_n hx hb dX7_nest_6 rfl (lv_at hl 1 rfl) ?_
  refine r_cvI (As := [.int p1]) ⟨hx, hb, hml, hown, hts⟩ (c_X7_isTable l G (h0) hp) (cw_X7_121 hts ⟨Nat.le_of_ble_eq_true rfl, Nat.le_of_ble_eq_true rfl⟩) hw (hw.recv (h0.1) rfl rfl) rfl rfl hl.1 (Nat.le_of_ble_eq_true rfl) ⟨Nat.zero_le _, Nat.zero_le _⟩ dX7_nest_7 (fun r_2 I_3 L_4 H locs hp hw => ?_)
  refine lv_if_eq (tgt := 21) hx hb dX7_nest_10 (by decide) (fun hc_5 => ?_) (fun hc_5 => ?_)
  · replace hp := hp.1 hc_5
    refine lv_iconst (v := (-1)) hx hb dX7_nest_21 (by decide) ?_
    exact r_iret hx hb hr hlocks hw hp dX7_nest_22
  · replace hp := hp.2 hc_5
    refine lv_aload_n hx hb dX7_nest_13 rfl (lv_at hl 0 rfl) ?_
    refine lv_iload_n hx hb dX7_nest_14 rfl (lv_at hl 2 rfl) ?_
    refine r_cvI (As := [.int p2]) ⟨hx, hb, hml, hown, hts⟩ (c_X7_isTable l G (h0) hp) (cw_X7_121 hts ⟨Nat.le_of_ble_eq_true rfl, Nat.le_of_ble_eq_true rfl⟩) hw (hw.recv (h0.1) rfl rfl) rfl rfl hl.1 (Nat.le_of_ble_eq_true rfl) ⟨Nat.zero_le _, Nat.zero_le _⟩ dX7_nest_15 (fun r_6 I_7 L_8 H locs hp hw => ?_)
    refine lv_if_ne (tgt := 23) hx hb dX7_nest_18 (by decide) (fun hc_9 => ?_) (fun hc_9 => ?_)
    · replace hp := hp.2 hc_9
      refine lv_aload_n hx hb dX7_nest_23 rfl (lv_at hl 0 rfl) ?_
      refine gf_X7_50 hx hb hts hown hw (h0.1) dX7_nest_24 ?_
      refine lv_iload_n hx hb dX7_nest_27 rfl (lv_at hl 1 rfl) ?_
      obtain ⟨hi_10, hp⟩ := hp
      refine r_zald hx hb hw (h0.2.2.2.2.2.2.2.2.2.2.2.2.2.2.1) hi_10 dX7_nest_28 ?_
      refine lv_if_eq (tgt := 62) hx hb dX7_nest_29 (by decide) (fun hc_11 => ?_) (fun hc_11 => ?_)
      · replace hp := hp.1 hc_11
        refine lv_bipush (v := (-3)) hx hb dX7_nest_62 (by decide) ?_
        exact r_iret hx hb hr hlocks hw hp dX7_nest_64
      · replace hp := hp.2 hc_11
        refine lv_iload_n hx hb dX7_nest_32 rfl (lv_at hl 1 rfl) ?_
        refine lv_iload_n hx hb dX7_nest_33 rfl (lv_at hl 2 rfl) ?_
        refine lv_icmp_eq (tgt := 62) hx hb dX7_nest_34 (by decide) (fun hc_12 => ?_) (fun hc_12 => ?_)
        · replace hp := hp.1 hc_12
          refine lv_bipush (v := (-3)) hx hb dX7_nest_62 (by decide) ?_
          exact r_iret hx hb hr hlocks hw hp dX7_nest_64
        · replace hp := hp.2 hc_12
          refine lv_aload_n hx hb dX7_nest_37 rfl (lv_at hl 0 rfl) ?_
          refine gf_X7_80 hx hb hts hown hw (h0.1) dX7_nest_38 ?_
          refine lv_iload_n hx hb dX7_nest_41 rfl (lv_at hl 2 rfl) ?_
          obtain ⟨hi_13, hp⟩ := hp
          refine r_iald hx hb hw (h0.2.2.2.2.2.2.2.2.2.2.2.2.2.2.2.2.2.2.2.2.2.2.2.2.1) hi_13 dX7_nest_42 ?_
          refine lv_if_eq (tgt := 62) hx hb dX7_nest_43 (by decide) (fun hc_14 => ?_) (fun hc_14 => ?_)
          · replace hp := hp.1 hc_14
            refine lv_bipush (v := (-3)) hx hb dX7_nest_62 (by decide) ?_
            exact r_iret hx hb hr hlocks hw hp dX7_nest_64
          · replace hp := hp.2 hc_14
            refine lv_aload_n hx hb dX7_nest_46 rfl (lv_at hl 0 rfl) ?_
            refine gf_X7_99 hx hb hts hown hw (h0.1) dX7_nest_47 ?_
            refine lv_iload_n hx hb dX7_nest_50 rfl (lv_at hl 2 rfl) ?_
            obtain ⟨hi_15, hp⟩ := hp
            refine r_lald hx hb hw (h0.2.2.2.2.2.2.2.2.2.2.2.2.2.2.2.2.2.2.2.2.2.2.2.2.2.2.2.2.2.2.1) hi_15 dX7_nest_51 ?_
            refine lv_lconst (v := 0) hx hb dX7_nest_52 (by decide) ?_
            refine lv_ldc2 hx hb hown (hts _ k_851) dX7_nest_53 ?_
            refine r_csI (As := [.long (L_8 (a0 + 30) (p2).toNatClampNeg), .long (0 : Int64), .long (100000 : Int64)]) ⟨hx, hb, hml, hown, hts⟩ (c_X7_in l G  hp) (cw_X7_149 hts ⟨Nat.le_of_ble_eq_true rfl, Nat.le_of_ble_eq_true rfl⟩) hw rfl rfl hl.1 (Nat.le_of_ble_eq_true rfl) ⟨Nat.zero_le _, Nat.zero_le _⟩ dX7_nest_56 (fun r_16 I_17 L_18 H locs hp hw => ?_)
            refine lv_if_ne (tgt := 65) hx hb dX7_nest_59 (by decide) (fun hc_19 => ?_) (fun hc_19 => ?_)
            · replace hp := hp.2 hc_19
              refine lv_iload_n hx hb dX7_nest_65 rfl (lv_at hl 3 rfl) ?_
              refine lv_i2l hx hb dX7_nest_66 rfl ?_
              refine lv_lconst (v := 1) hx hb dX7_nest_67 (by decide) ?_
              refine lv_ldc2 hx hb hown (hts _ k_852) dX7_nest_68 ?_
              refine r_csI (As := [.long (Int32.toInt64 p3), .long (1 : Int64), .long (8 : Int64)]) ⟨hx, hb, hml, hown, hts⟩ (c_X7_in l G  hp) (cw_X7_149 hts ⟨Nat.le_of_ble_eq_true rfl, Nat.le_of_ble_eq_true rfl⟩) hw rfl rfl hl.1 (Nat.le_of_ble_eq_true rfl) ⟨Nat.zero_le _, Nat.zero_le _⟩ dX7_nest_71 (fun r_20 I_21 L_22 H locs hp hw => ?_)
              refine lv_if_ne (tgt := 80) hx hb dX7_nest_74 (by decide) (fun hc_23 => ?_) (fun hc_23 => ?_)
              · replace hp := hp.2 hc_23
                refine lv_aload_n hx hb dX7_nest_80 rfl (lv_at hl 0 rfl) ?_
                refine lv_iload_n hx hb dX7_nest_81 rfl (lv_at hl 1 rfl) ?_
                refine r_cvI (As := [.int p1]) ⟨hx, hb, hml, hown, hts⟩ (c_X7_free l G (h0) hp) (cw_X7_167 hts ⟨Nat.le_of_ble_eq_true rfl, Nat.le_of_ble_eq_true rfl⟩) hw (hw.recv (h0.1) rfl rfl) rfl rfl hl.1 (Nat.le_of_ble_eq_true rfl) ⟨Nat.zero_le _, Nat.zero_le _⟩ dX7_nest_82 (fun r_24 I_25 L_26 H locs hp hw => ?_)
                refine lv_iload_n hx hb dX7_nest_85 rfl (lv_at hl 3 rfl) ?_
                refine lv_iadd hx hb dX7_nest_86 ?_
                refine lv_aload_n hx hb dX7_nest_87 rfl (lv_at hl 0 rfl) ?_
                refine lv_iload_n hx hb dX7_nest_88 rfl (lv_at hl 1 rfl) ?_
                refine r_cvI (As := [.int p1]) ⟨hx, hb, hml, hown, hts⟩ (c_X7_columnsOf l G (h0) hp) (cw_X7_174 hts ⟨Nat.le_of_ble_eq_true rfl, Nat.le_of_ble_eq_true rfl⟩) hw (hw.recv (h0.1) rfl rfl) rfl rfl hl.1 (Nat.le_of_ble_eq_true rfl) ⟨Nat.zero_le _, Nat.zero_le _⟩ dX7_nest_89 (fun r_27 I_28 L_29 H locs hp hw => ?_)
                refine lv_icmp_le (tgt := 99) hx hb dX7_nest_92 (by decide) (fun hc_30 => ?_) (fun hc_30 => ?_)
                · replace hp := hp.1 hc_30
                  refine lv_aload_n hx hb dX7_nest_99 rfl (lv_at hl 0 rfl) ?_
                  refine lv_iload_n hx hb dX7_nest_100 rfl (lv_at hl 1 rfl) ?_
                  refine lv_aload_n hx hb dX7_nest_101 rfl (lv_at hl 0 rfl) ?_
                  refine gf_X7_99 hx hb hts hown hw (h0.1) dX7_nest_102 ?_
                  refine lv_iload_n hx hb dX7_nest_105 rfl (lv_at hl 2 rfl) ?_
                  obtain ⟨hi_31, hp⟩ := hp
                  refine r_lald hx hb hw (h0.2.2.2.2.2.2.2.2.2.2.2.2.2.2.2.2.2.2.2.2.2.2.2.2.2.2.2.2.2.2.1) hi_31 dX7_nest_106 ?_
                  refine lv_l2i hx hb dX7_nest_107 rfl ?_
                  refine lv_iload_n hx hb dX7_nest_108 rfl (lv_at hl 3 rfl) ?_
                  refine r_cvI (As := [.int p1, .int (Int64.toInt32 (L_29 (a0 + 30) (p2).toNatClampNeg)), .int p3]) ⟨hx, hb, hml, hown, hts⟩ (c_X7_add l G (h0) hp) (cw_X7_180 hts ⟨Nat.le_of_ble_eq_true rfl, Nat.le_of_ble_eq_true rfl⟩) hw (hw.recv (h0.1) rfl rfl) rfl rfl hl.1 (Nat.le_of_ble_eq_true rfl) ⟨Nat.zero_le _, Nat.zero_le _⟩ dX7_nest_109 (fun r_32 I_33 L_34 H locs hp hw => ?_)
                  exact r_iret hx hb hr hlocks hw hp dX7_nest_112
                · replace hp := hp.2 hc_30
                  refine lv_iconst (v := (-1)) hx hb dX7_nest_95 (by decide) ?_
                  refine lv_goto (tgt := 112) hx hb dX7_nest_96 (by decide) ?_
                  exact r_iret hx hb hr hlocks hw hp dX7_nest_112
              · replace hp := hp.1 hc_23
                refine lv_bipush (v := (-2)) hx hb dX7_nest_77 (by decide) ?_
                exact r_iret hx hb hr hlocks hw hp dX7_nest_79
            · replace hp := hp.1 hc_19
              refine lv_bipush (v := (-3)) hx hb dX7_nest_62 (by decide) ?_
              exact r_iret hx hb hr hlocks hw hp dX7_nest_64
    · replace hp := hp.1 hc_9
      refine lv_iconst (v := (-1)) hx hb dX7_nest_21 (by decide) ?_
      exact r_iret hx hb hr hlocks hw hp dX7_nest_22
set_option maxHeartbeats 4000000 in
set_option maxRecDepth 100000 in
theorem w_X7_place_15 {p : Program} {l : Launch} {e : Env} {s : State} {m : MethodId} {args : Array Value} {below : List Frame} {meth : Method} {c : Code} (C : Cx p s m args meth c cX7_place (some .long) 3 RX7) {G : GX} {Sh : SH} {a0 : Nat} {p1 : Int32} {p2 : Int32} {K : Int64 → MI → ML → Prop} (h0 : isModel G Sh a0) : ∀ (xs0 : Int32) (I : MI) (L : ML) (H : Heap) (locs : List Loc) (ls : Array Slot), wp_X7_place_15 G Sh a0 p1 p2 K xs0 I L → mW G Sh s I L H locs → lv_has ls 3 [(0, .ref a0), (1, .int p1), (2, .int p2)] → W p l e (rmA 2 43) s m args below meth c H locs 0 0 (eL below G Sh K args s) (F0 m 15 ls [.int xs0, .ref a0]) := by
  obtain ⟨hx, hb, hr, hml, hown, hts, hlocks⟩ := id C
  intro xs0 I L H locs ls hp hw hl
  unfold wp_X7_place_15 at hp
  refine pf_X7_114 hx hb hts hown hw (h0.1) dX7_place_15 (fun I_5 H locs eI_5 hw => ?_)
  replace hp := hp I_5 eI_5
  refine lv_aload_n hx hb dX7_place_18 rfl (lv_at hl 0 rfl) ?_
  refine gf_X7_114 hx hb hts hown hw (h0.1) dX7_place_19 ?_
  refine lv_if_ne (tgt := 39) hx hb dX7_place_22 (by decide) (fun hc_6 => ?_) (fun hc_6 => ?_)
  · replace hp := hp.2 hc_6
    refine lv_lconst (v := 0) hx hb dX7_place_39 (by decide) ?_
    exact r_lret hx hb hr hlocks hw hp dX7_place_40
  · replace hp := hp.1 hc_6
    refine lv_aload_n hx hb dX7_place_25 rfl (lv_at hl 0 rfl) ?_
    refine gf_X7_92 hx hb hts hown hw (h0.1) dX7_place_26 ?_
    refine lv_bipush (v := 24) hx hb dX7_place_29 (by decide) ?_
    refine lv_iload_n hx hb dX7_place_31 rfl (lv_at hl 1 rfl) ?_
    refine lv_imul hx hb dX7_place_32 ?_
    refine lv_iload_n hx hb dX7_place_33 rfl (lv_at hl 2 rfl) ?_
    refine lv_iadd hx hb dX7_place_34 ?_
    refine lv_topi (fun x_7 ex_7 => ?_)
    replace hp := hp x_7 ex_7
    obtain ⟨hi_8, hp⟩ := hp
    refine r_lald hx hb hw (h0.2.2.2.2.2.2.2.2.2.2.2.2.2.2.2.2.2.2.2.2.2.2.2.2.2.2.2.2.1) hi_8 dX7_place_35 ?_
    refine lv_goto (tgt := 40) hx hb dX7_place_36 (by decide) ?_
    exact r_lret hx hb hr hlocks hw hp dX7_place_40
set_option maxHeartbeats 4000000 in
set_option maxRecDepth 100000 in
theorem c_X7_place (l : Launch) (G : GX) {Sh : SH} {a0 : Nat} {p1 : Int32} {p2 : Int32} (h0 : isModel G Sh a0) {I : MI} {L : ML} {K : Int64 → MI → ML → Prop} (hp : wp_X7_place G Sh a0 p1 p2 I L K) : CtL l yX7_place (wM yX7_place cX7_place 3 (some .long)) (rmA 2 43) G Sh [.ref a0, .int p1, .int p2] I L K := by
  refine ofA (own := RX7) (by decide) rfl (Nat.le_of_ble_eq_true rfl) ?_
  intro p e s m args below meth c ls C hw hl
  obtain ⟨hx, hb, hr, hml, hown, hts, hlocks⟩ := id C
  replace hl : lv_has ls 3 [(0, .ref a0), (1, .int p1), (2, .int p2)] := hl
  unfold wp_X7_place at hp
  refine lv_aload_n hx hb dX7_place_0 rfl (lv_at hl 0 rfl) ?_
  refine lv_aload_n hx hb dX7_place_1 rfl (lv_at hl 0 rfl) ?_
  refine lv_iload_n hx hb dX7_place_2 rfl (lv_at hl 1 rfl) ?_
  refine lv_iload_n hx hb dX7_place_3 rfl (lv_at hl 2 rfl) ?_
  refine r_cvI (As := [.int p1, .int p2]) ⟨hx, hb, hml, hown, hts⟩ (c_X7_isColumn l G (h0) hp) (cw_X7_216 hts ⟨Nat.le_of_ble_eq_true rfl, Nat.le_of_ble_eq_true rfl⟩) hw (hw.recv (h0.1) rfl rfl) rfl rfl hl.1 (Nat.le_of_ble_eq_true rfl) ⟨Nat.zero_le _, Nat.zero_le _⟩ dX7_place_4 (fun r_1 I_2 L_3 H locs hp hw => ?_)
  refine lv_if_eq (tgt := 14) hx hb dX7_place_7 (by decide) (fun hc_4 => ?_) (fun hc_4 => ?_)
  · replace hp := hp.1 hc_4
    refine lv_iconst (v := 1) hx hb dX7_place_14 (by decide) ?_
    exact w_X7_place_15 C h0 ((1 : Int32)) _ _ _ _ _ hp hw (lv_sub hl [0, 1, 2] rfl)
  · replace hp := hp.2 hc_4
    refine lv_iconst (v := 0) hx hb dX7_place_10 (by decide) ?_
    refine lv_goto (tgt := 15) hx hb dX7_place_11 (by decide) ?_
    exact w_X7_place_15 C h0 ((0 : Int32)) _ _ _ _ _ hp hw (lv_sub hl [0, 1, 2] rfl)
set_option maxHeartbeats 4000000 in
set_option maxRecDepth 100000 in
theorem c_X7_row (l : Launch) (G : GX) {Sh : SH} {a0 : Nat} {p1 : Int32} (h0 : isModel G Sh a0) {I : MI} {L : ML} {K : Int32 → MI → ML → Prop} (hp : wp_X7_row G Sh a0 p1 I L K) : CtI l yX7_row (wM yX7_row cX7_row 2 (some .int)) (rmA 1 22) G Sh [.ref a0, .int p1] I L K := by
  refine ofA (own := RX7) (by decide) rfl (Nat.le_of_ble_eq_true rfl) ?_
  intro p e s m args below meth c ls C hw hl
  obtain ⟨hx, hb, hr, hml, hown, hts, hlocks⟩ := id C
  replace hl : lv_has ls 2 [(0, .ref a0), (1, .int p1)] := hl
  unfold wp_X7_row at hp
  refine lv_aload_n hx hb dX7_row_0 rfl (lv_at hl 0 rfl) ?_
  refine lv_iconst (v := 0) hx hb dX7_row_1 (by decide) ?_
  refine pf_X7_114 hx hb hts hown hw (h0.1) dX7_row_2 (fun I_1 H locs eI_1 hw => ?_)
  replace hp := hp I_1 eI_1
  refine lv_aload_n hx hb dX7_row_5 rfl (lv_at hl 0 rfl) ?_
  refine lv_iload_n hx hb dX7_row_6 rfl (lv_at hl 1 rfl) ?_
  refine r_cvI (As := [.int p1]) ⟨hx, hb, hml, hown, hts⟩ (c_X7_isTable l G (h0) hp) (cw_X7_121 hts ⟨Nat.le_of_ble_eq_true rfl, Nat.le_of_ble_eq_true rfl⟩) hw (hw.recv (h0.1) rfl rfl) rfl rfl hl.1 (Nat.le_of_ble_eq_true rfl) ⟨Nat.zero_le _, Nat.zero_le _⟩ dX7_row_7 (fun r_2 I_3 L_4 H locs hp hw => ?_)
  refine lv_if_ne (tgt := 15) hx hb dX7_row_10 (by decide) (fun hc_5 => ?_) (fun hc_5 => ?_)
  · replace hp := hp.2 hc_5
    refine lv_aload_n hx hb dX7_row_15 rfl (lv_at hl 0 rfl) ?_
    refine gf_X7_16 hx hb hts hown hw (h0.1) dX7_row_16 ?_
    refine lv_iload_n hx hb dX7_row_19 rfl (lv_at hl 1 rfl) ?_
    obtain ⟨hi_6, hp⟩ := hp
    refine r_zald hx hb hw (h0.2.2.2.1) hi_6 dX7_row_20 ?_
    refine lv_if_eq (tgt := 33) hx hb dX7_row_21 (by decide) (fun hc_7 => ?_) (fun hc_7 => ?_)
    · replace hp := hp.1 hc_7
      refine lv_bipush (v := (-3)) hx hb dX7_row_33 (by decide) ?_
      exact r_iret hx hb hr hlocks hw hp dX7_row_35
    · replace hp := hp.2 hc_7
      refine lv_aload_n hx hb dX7_row_24 rfl (lv_at hl 0 rfl) ?_
      refine gf_X7_50 hx hb hts hown hw (h0.1) dX7_row_25 ?_
      refine lv_iload_n hx hb dX7_row_28 rfl (lv_at hl 1 rfl) ?_
      obtain ⟨hi_8, hp⟩ := hp
      refine r_zald hx hb hw (h0.2.2.2.2.2.2.2.2.2.2.2.2.2.2.1) hi_8 dX7_row_29 ?_
      refine lv_if_eq (tgt := 36) hx hb dX7_row_30 (by decide) (fun hc_9 => ?_) (fun hc_9 => ?_)
      · replace hp := hp.1 hc_9
        refine lv_aload_n hx hb dX7_row_36 rfl (lv_at hl 0 rfl) ?_
        refine gf_X7_47 hx hb hts hown hw (h0.1) dX7_row_37 ?_
        refine lv_iload_n hx hb dX7_row_40 rfl (lv_at hl 1 rfl) ?_
        obtain ⟨hi_10, hp⟩ := hp
        refine r_iald hx hb hw (h0.2.2.2.2.2.2.2.2.2.2.2.2.2.1) hi_10 dX7_row_41 ?_
        refine lv_bipush (v := 20) hx hb dX7_row_42 (by decide) ?_
        refine lv_icmp_ne (tgt := 50) hx hb dX7_row_44 (by decide) (fun hc_11 => ?_) (fun hc_11 => ?_)
        · replace hp := hp.2 hc_11
          refine lv_aload_n hx hb dX7_row_50 rfl (lv_at hl 0 rfl) ?_
          refine gf_X7_50 hx hb hts hown hw (h0.1) dX7_row_51 ?_
          refine lv_iload_n hx hb dX7_row_54 rfl (lv_at hl 1 rfl) ?_
          refine lv_iconst (v := 1) hx hb dX7_row_55 (by decide) ?_
          obtain ⟨hi_12, hp⟩ := hp
          refine r_zast (y := (1 : Int32)) hx hb hw (h0.2.2.2.2.2.2.2.2.2.2.2.2.2.2.1) hi_12 rfl dX7_row_56 (fun I_13 H locs eI_13 hw => ?_)
          replace hp := hp I_13 eI_13
          refine lv_aload_n hx hb dX7_row_57 rfl (lv_at hl 0 rfl) ?_
          refine gf_X7_53 hx hb hts hown hw (h0.1) dX7_row_58 ?_
          refine lv_bipush (v := 20) hx hb dX7_row_61 (by decide) ?_
          refine lv_iload_n hx hb dX7_row_63 rfl (lv_at hl 1 rfl) ?_
          refine lv_imul hx hb dX7_row_64 ?_
          refine lv_aload_n hx hb dX7_row_65 rfl (lv_at hl 0 rfl) ?_
          refine gf_X7_47 hx hb hts hown hw (h0.1) dX7_row_66 ?_
          refine lv_iload_n hx hb dX7_row_69 rfl (lv_at hl 1 rfl) ?_
          obtain ⟨hi_14, hp⟩ := hp
          refine r_iald hx hb hw (h0.2.2.2.2.2.2.2.2.2.2.2.2.2.1) hi_14 dX7_row_70 ?_
          refine lv_iadd hx hb dX7_row_71 ?_
          refine lv_aload_n hx hb dX7_row_72 rfl (lv_at hl 0 rfl) ?_
          refine gf_X7_59 hx hb hts hown hw (h0.1) dX7_row_73 ?_
          refine lv_iload_n hx hb dX7_row_76 rfl (lv_at hl 1 rfl) ?_
          obtain ⟨hi_15, hp⟩ := hp
          refine r_iald hx hb hw (h0.2.2.2.2.2.2.2.2.2.2.2.2.2.2.2.2.2.1) hi_15 dX7_row_77 ?_
          obtain ⟨hi_16, hp⟩ := hp
          refine r_iast hx hb hw (h0.2.2.2.2.2.2.2.2.2.2.2.2.2.2.2.1) hi_16 dX7_row_78 (fun I_17 H locs eI_17 hw => ?_)
          replace hp := hp I_17 eI_17
          refine lv_aload_n hx hb dX7_row_79 rfl (lv_at hl 0 rfl) ?_
          refine gf_X7_56 hx hb hts hown hw (h0.1) dX7_row_80 ?_
          refine lv_bipush (v := 20) hx hb dX7_row_83 (by decide) ?_
          refine lv_iload_n hx hb dX7_row_85 rfl (lv_at hl 1 rfl) ?_
          refine lv_imul hx hb dX7_row_86 ?_
          refine lv_aload_n hx hb dX7_row_87 rfl (lv_at hl 0 rfl) ?_
          refine gf_X7_47 hx hb hts hown hw (h0.1) dX7_row_88 ?_
          refine lv_iload_n hx hb dX7_row_91 rfl (lv_at hl 1 rfl) ?_
          obtain ⟨hi_18, hp⟩ := hp
          refine r_iald hx hb hw (h0.2.2.2.2.2.2.2.2.2.2.2.2.2.1) hi_18 dX7_row_92 ?_
          refine lv_iadd hx hb dX7_row_93 ?_
          refine lv_iconst (v := 0) hx hb dX7_row_94 (by decide) ?_
          obtain ⟨hi_19, hp⟩ := hp
          refine r_iast hx hb hw (h0.2.2.2.2.2.2.2.2.2.2.2.2.2.2.2.2.1) hi_19 dX7_row_95 (fun I_20 H locs eI_20 hw => ?_)
          replace hp := hp I_20 eI_20
          refine lv_aload_n hx hb dX7_row_96 rfl (lv_at hl 0 rfl) ?_
          refine lv_iload_n hx hb dX7_row_97 rfl (lv_at hl 1 rfl) ?_
          refine lv_aload_n hx hb dX7_row_98 rfl (lv_at hl 0 rfl) ?_
          refine gf_X7_47 hx hb hts hown hw (h0.1) dX7_row_99 ?_
          refine lv_iload_n hx hb dX7_row_102 rfl (lv_at hl 1 rfl) ?_
          obtain ⟨hi_21, hp⟩ := hp
          refine r_iald hx hb hw (h0.2.2.2.2.2.2.2.2.2.2.2.2.2.1) hi_21 dX7_row_103 ?_
          refine r_cvV (As := [.int p1, .int (I_20 (a0 + 13) (p1).toNatClampNeg)]) ⟨hx, hb, hml, hown, hts⟩ (c_X7_stand l G (h0) hp) (cw_X7_163 hts ⟨Nat.le_of_ble_eq_true rfl, Nat.le_of_ble_eq_true rfl⟩) hw (hw.recv (h0.1) rfl rfl) rfl rfl hl.1 (Nat.le_of_ble_eq_true rfl) ⟨Nat.zero_le _, Nat.zero_le _⟩ dX7_row_104 (fun I_23 L_24 H locs hp hw => ?_)
          refine lv_aload_n hx hb dX7_row_107 rfl (lv_at hl 0 rfl) ?_
          refine gf_X7_47 hx hb hts hown hw (h0.1) dX7_row_108 ?_
          refine lv_iload_n hx hb dX7_row_111 rfl (lv_at hl 1 rfl) ?_
          refine lv_dup2_11 hx hb dX7_row_112 rfl rfl ?_
          obtain ⟨hi_25, hp⟩ := hp
          refine r_iald hx hb hw (h0.2.2.2.2.2.2.2.2.2.2.2.2.2.1) hi_25 dX7_row_113 ?_
          refine lv_iconst (v := 1) hx hb dX7_row_114 (by decide) ?_
          refine lv_iadd hx hb dX7_row_115 ?_
          obtain ⟨hi_26, hp⟩ := hp
          refine r_iast hx hb hw (h0.2.2.2.2.2.2.2.2.2.2.2.2.2.1) hi_26 dX7_row_116 (fun I_27 H locs eI_27 hw => ?_)
          replace hp := hp I_27 eI_27
          refine lv_aload_n hx hb dX7_row_117 rfl (lv_at hl 0 rfl) ?_
          refine gf_X7_47 hx hb hts hown hw (h0.1) dX7_row_118 ?_
          refine lv_iload_n hx hb dX7_row_121 rfl (lv_at hl 1 rfl) ?_
          obtain ⟨hi_28, hp⟩ := hp
          refine r_iald hx hb hw (h0.2.2.2.2.2.2.2.2.2.2.2.2.2.1) hi_28 dX7_row_122 ?_
          refine lv_iconst (v := 1) hx hb dX7_row_123 (by decide) ?_
          refine lv_isub hx hb dX7_row_124 ?_
          exact r_iret hx hb hr hlocks hw hp dX7_row_125
        · replace hp := hp.1 hc_11
          refine lv_bipush (v := (-4)) hx hb dX7_row_47 (by decide) ?_
          exact r_iret hx hb hr hlocks hw hp dX7_row_49
      · replace hp := hp.2 hc_9
        refine lv_bipush (v := (-3)) hx hb dX7_row_33 (by decide) ?_
        exact r_iret hx hb hr hlocks hw hp dX7_row_35
  · replace hp := hp.1 hc_5
    refine lv_iconst (v := (-1)) hx hb dX7_row_13 (by decide) ?_
    exact r_iret hx hb hr hlocks hw hp dX7_row_14
set_option maxHeartbeats 4000000 in
set_option maxRecDepth 100000 in
theorem c_X7_widthOfGlue (l : Launch) (G : GX) {Sh : SH} {a0 : Nat} {p1 : Int32} {p2 : Int32} (h0 : isModel G Sh a0) {I : MI} {L : ML} {K : Int64 → MI → ML → Prop} (hp : wp_X7_widthOfGlue G Sh a0 p1 p2 I L K) : CtL l yX7_widthOfGlue (wM yX7_widthOfGlue cX7_widthOfGlue 3 (some .long)) (rmA 2 45) G Sh [.ref a0, .int p1, .int p2] I L K := by
  refine ofA (own := RX7) (by decide) rfl (Nat.le_of_ble_eq_true rfl) ?_
  intro p e s m args below meth c ls C hw hl
  obtain ⟨hx, hb, hr, hml, hown, hts, hlocks⟩ := id C
  replace hl : lv_has ls 3 [(0, .ref a0), (1, .int p1), (2, .int p2)] := hl
  unfold wp_X7_widthOfGlue at hp
  refine lv_iload_n hx hb dX7_widthOfGlue_0 rfl (lv_at hl 2 rfl) ?_
  refine lv_if_ne (tgt := 17) hx hb dX7_widthOfGlue_1 (by decide) (fun hc_1 => ?_) (fun hc_1 => ?_)
  · replace hp := hp.2 hc_1
    refine lv_aload_n hx hb dX7_widthOfGlue_17 rfl (lv_at hl 0 rfl) ?_
    refine gf_X7_89 hx hb hts hown hw (h0.1) dX7_widthOfGlue_18 ?_
    refine lv_bipush (v := 24) hx hb dX7_widthOfGlue_21 (by decide) ?_
    refine lv_iload_n hx hb dX7_widthOfGlue_23 rfl (lv_at hl 1 rfl) ?_
    refine lv_imul hx hb dX7_widthOfGlue_24 ?_
    refine lv_iload_n hx hb dX7_widthOfGlue_25 rfl (lv_at hl 2 rfl) ?_
    refine lv_iadd hx hb dX7_widthOfGlue_26 ?_
    refine lv_iconst (v := 1) hx hb dX7_widthOfGlue_27 (by decide) ?_
    refine lv_isub hx hb dX7_widthOfGlue_28 ?_
    refine lv_topi (fun x_2 ex_2 => ?_)
    replace hp := hp x_2 ex_2
    obtain ⟨hi_3, hp⟩ := hp
    refine r_zald hx hb hw (h0.2.2.2.2.2.2.2.2.2.2.2.2.2.2.2.2.2.2.2.2.2.2.2.2.2.2.2.1) hi_3 dX7_widthOfGlue_29 ?_
    refine lv_if_eq (tgt := 37) hx hb dX7_widthOfGlue_30 (by decide) (fun hc_4 => ?_) (fun hc_4 => ?_)
    · replace hp := hp.1 hc_4
      refine lv_aload_n hx hb dX7_widthOfGlue_37 rfl (lv_at hl 0 rfl) ?_
      refine gf_X7_32 hx hb hts hown hw (h0.1) dX7_widthOfGlue_38 ?_
      refine lv_aload_n hx hb dX7_widthOfGlue_41 rfl (lv_at hl 0 rfl) ?_
      refine lv_iload_n hx hb dX7_widthOfGlue_42 rfl (lv_at hl 1 rfl) ?_
      refine lv_iload_n hx hb dX7_widthOfGlue_43 rfl (lv_at hl 2 rfl) ?_
      refine lv_iconst (v := 1) hx hb dX7_widthOfGlue_44 (by decide) ?_
      refine lv_isub hx hb dX7_widthOfGlue_45 ?_
      refine r_cvI (As := [.int p1, .int (p2 - (1 : Int32))]) ⟨hx, hb, hml, hown, hts⟩ (c_X7_glueBehind l G (h0) hp) (cw_X7_184 hts ⟨Nat.le_of_ble_eq_true rfl, Nat.le_of_ble_eq_true rfl⟩) hw (hw.recv (h0.1) rfl rfl) rfl rfl hl.1 (Nat.le_of_ble_eq_true rfl) ⟨Nat.zero_le _, Nat.zero_le _⟩ dX7_widthOfGlue_46 (fun r_5 I_6 L_7 H locs hp hw => ?_)
      obtain ⟨hi_8, hp⟩ := hp
      refine r_iald hx hb hw (h0.2.2.2.2.2.2.2.2.1) hi_8 dX7_widthOfGlue_49 ?_
      refine lv_i2l hx hb dX7_widthOfGlue_50 rfl ?_
      exact r_lret hx hb hr hlocks hw hp dX7_widthOfGlue_51
    · replace hp := hp.2 hc_4
      refine lv_lconst (v := 0) hx hb dX7_widthOfGlue_33 (by decide) ?_
      refine lv_goto (tgt := 51) hx hb dX7_widthOfGlue_34 (by decide) ?_
      exact r_lret hx hb hr hlocks hw hp dX7_widthOfGlue_51
  · replace hp := hp.1 hc_1
    refine lv_aload_n hx hb dX7_widthOfGlue_4 rfl (lv_at hl 0 rfl) ?_
    refine gf_X7_32 hx hb hts hown hw (h0.1) dX7_widthOfGlue_5 ?_
    refine lv_bipush (v := 13) hx hb dX7_widthOfGlue_8 (by decide) ?_
    refine lv_iload_n hx hb dX7_widthOfGlue_10 rfl (lv_at hl 1 rfl) ?_
    refine lv_imul hx hb dX7_widthOfGlue_11 ?_
    refine lv_topi (fun x_9 ex_9 => ?_)
    replace hp := hp x_9 ex_9
    obtain ⟨hi_10, hp⟩ := hp
    refine r_iald hx hb hw (h0.2.2.2.2.2.2.2.2.1) hi_10 dX7_widthOfGlue_12 ?_
    refine lv_i2l hx hb dX7_widthOfGlue_13 rfl ?_
    refine lv_goto (tgt := 51) hx hb dX7_widthOfGlue_14 (by decide) ?_
    exact r_lret hx hb hr hlocks hw hp dX7_widthOfGlue_51
set_option maxHeartbeats 4000000 in
set_option maxRecDepth 100000 in
theorem w_X7_sumOf_6 {p : Program} {l : Launch} {e : Env} {s : State} {m : MethodId} {args : Array Value} {below : List Frame} {meth : Method} {c : Code} (C : Cx p s m args meth c cX7_sumOf (some .long) 8 RX7) {G : GX} {Sh : SH} {a0 : Nat} {p1 : Int32} {p2 : Int32} {p3 : Int32} {p4 : Int32} {K : Int64 → MI → ML → Prop} (h0 : isModel G Sh a0) : ∀ (n : Nat) (yl5 : Int64) (xl7 : Int32) (I : MI) (L : ML) (H : Heap) (locs : List Loc) (ls : Array Slot), wp_X7_sumOf_6 G Sh a0 p1 p2 p3 p4 K n yl5 xl7 I L → mW G Sh s I L H locs → lv_has ls 8 [(0, .ref a0), (1, .int p1), (2, .int p2), (3, .int p3), (4, .int p4), (5, .long yl5), (7, .int xl7)] → W p l e (rmA 3 70) s m args below meth c H locs 0 0 (eL below G Sh K args s) (F0 m 6 ls []) := by
  obtain ⟨hx, hb, hr, hml, hown, hts, hlocks⟩ := id C
  intro n
  induction n with
  | zero => intro yl5 xl7 I L H locs ls hp hw hl; exact hp.elim
  | succ n hB6 =>
    intro yl5 xl7 I L H locs ls hp hw hl
    replace hp : wb_X7_sumOf_6 G Sh a0 p1 p2 p3 p4 K (wp_X7_sumOf_6 G Sh a0 p1 p2 p3 p4 K n) yl5 xl7 I L := hp
    unfold wb_X7_sumOf_6 at hp
    refine lv_iload hx hb dX7_sumOf_6 (lv_at hl 6 rfl) ?_
    refine lv_iload_n hx hb dX7_sumOf_8 rfl (lv_at hl 2 rfl) ?_
    refine lv_icmp_ge (tgt := 33) hx hb dX7_sumOf_9 (by decide) (fun hc_1 => ?_) (fun hc_1 => ?_)
    · replace hp := hp.1 hc_1
      refine lv_lload hx hb dX7_sumOf_33 (lv_at hl 5 rfl) ?_
      exact r_lret hx hb hr hlocks hw hp dX7_sumOf_35
    · replace hp := hp.2 hc_1
      refine lv_lload hx hb dX7_sumOf_12 (lv_at hl 5 rfl) ?_
      refine lv_aload_n hx hb dX7_sumOf_14 rfl (lv_at hl 0 rfl) ?_
      refine lv_iload_n hx hb dX7_sumOf_15 rfl (lv_at hl 1 rfl) ?_
      refine lv_iload hx hb dX7_sumOf_16 (lv_at hl 6 rfl) ?_
      refine lv_iload_n hx hb dX7_sumOf_18 rfl (lv_at hl 3 rfl) ?_
      refine lv_iload hx hb dX7_sumOf_19 (lv_at hl 4 rfl) ?_
      refine r_cvL (As := [.int p1, .int xl7, .int p3, .int p4]) ⟨hx, hb, hml, hown, hts⟩ (c_X7_gives l G (h0) hp) (cw_X7_187 hts ⟨Nat.le_of_ble_eq_true rfl, Nat.le_of_ble_eq_true rfl⟩) hw (hw.recv (h0.1) rfl rfl) rfl rfl hl.1 (Nat.le_of_ble_eq_true rfl) ⟨Nat.zero_le _, Nat.zero_le _⟩ dX7_sumOf_21 (fun r_2 I_3 L_4 H locs hp hw => ?_)
      refine lv_ladd hx hb dX7_sumOf_24 ?_
      refine lv_topl (fun y_5 ey_5 => ?_)
      replace hp := hp y_5 ey_5
      refine lv_lstore (lv' := [(5, .long y_5), (0, .ref a0), (1, .int p1), (2, .int p2), (3, .int p3), (4, .int p4), (7, .int xl7)]) hx hb dX7_sumOf_25 hl (by decide) rfl (fun ls hl => ?_)
      obtain ⟨x_6, ex_6⟩ : ∃ z : Int32, z = xl7 + (1 : Int32) := ⟨_, rfl⟩
      replace hp := hp x_6 ex_6
      refine lv_iinc (v := x_6) (lv' := [(7, .int x_6), (5, .long y_5), (0, .ref a0), (1, .int p1), (2, .int p2), (3, .int p3), (4, .int p4)]) hx hb dX7_sumOf_27 hl (k := 6) rfl (by rw [ex_6]; rfl) (by decide) rfl (fun ls hl => ?_)
      refine lv_goto (tgt := 6) hx hb dX7_sumOf_30 (by decide) ?_
      exact hB6 (y_5) (x_6) _ _ _ _ _ hp hw (lv_sub hl [2, 3, 4, 5, 6, 1, 0] rfl)
set_option maxHeartbeats 4000000 in
set_option maxRecDepth 100000 in
theorem c_X7_sumOf (l : Launch) (G : GX) {Sh : SH} {a0 : Nat} {p1 : Int32} {p2 : Int32} {p3 : Int32} {p4 : Int32} (h0 : isModel G Sh a0) {I : MI} {L : ML} {K : Int64 → MI → ML → Prop} (hp : wp_X7_sumOf G Sh a0 p1 p2 p3 p4 I L K) : CtL l yX7_sumOf (wM yX7_sumOf cX7_sumOf 8 (some .long)) (rmA 3 70) G Sh [.ref a0, .int p1, .int p2, .int p3, .int p4] I L K := by
  refine ofA (own := RX7) (by decide) rfl (Nat.le_of_ble_eq_true rfl) ?_
  intro p e s m args below meth c ls C hw hl
  obtain ⟨hx, hb, hr, hml, hown, hts, hlocks⟩ := id C
  replace hl : lv_has ls 8 [(0, .ref a0), (1, .int p1), (2, .int p2), (3, .int p3), (4, .int p4)] := hl
  unfold wp_X7_sumOf at hp
  refine lv_lconst (v := 0) hx hb dX7_sumOf_0 (by decide) ?_
  refine lv_lstore (lv' := [(5, .long (0 : Int64)), (0, .ref a0), (1, .int p1), (2, .int p2), (3, .int p3), (4, .int p4)]) hx hb dX7_sumOf_1 hl (by decide) rfl (fun ls hl => ?_)
  refine lv_iconst (v := 0) hx hb dX7_sumOf_3 (by decide) ?_
  refine lv_istore (lv' := [(7, .int (0 : Int32)), (5, .long (0 : Int64)), (0, .ref a0), (1, .int p1), (2, .int p2), (3, .int p3), (4, .int p4)]) hx hb dX7_sumOf_4 hl (by decide) rfl (fun ls hl => ?_)
  obtain ⟨n, hp⟩ := hp
  exact w_X7_sumOf_6 C h0 n ((0 : Int64)) ((0 : Int32)) _ _ _ _ _ hp hw (lv_sub hl [2, 3, 4, 5, 6, 1, 0] rfl)
