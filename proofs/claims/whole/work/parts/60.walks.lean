set_option maxHeartbeats 4000000 in
set_option maxRecDepth 100000 in
theorem w_J7_fill_53178_5 {p : Program} {l : Launch} {e : Env} {s : State} {m : MethodId} {args : Array Value} {below : List Frame} {meth : Method} {c : Code} (C : Cx p s m args meth c cJ7_fill_53178 none 4 RJ7) {G : GX} {Sh : SH} {N0 : Nat} {a0 : Nat} {p1 : Int32} {K : MI → ML → Prop} (h0 : Sh a0 = some (sI G N0)) : ∀ (n : Nat) (xl2 : Int32) (xl3 : Int32) (I : MI) (L : ML) (H : Heap) (locs : List Loc) (ls : Array Slot), wp_J7_fill_53178_5 G Sh N0 a0 p1 K n xl2 xl3 I L → mW G Sh s I L H locs → lv_has ls 4 [(0, .ref a0), (1, .int p1), (2, .int xl2), (3, .int xl3)] → W p l e (rmA 0 0) s m args below meth c H locs 0 0 (eV below G Sh K args s) (F0 m 5 ls []) := by
  obtain ⟨hx, hb, hr, hml, hown, hts, hlocks⟩ := id C
  intro n
  induction n with
  | zero => intro xl2 xl3 I L H locs ls hp hw hl; exact hp.elim
  | succ n hB5 =>
    intro xl2 xl3 I L H locs ls hp hw hl
    replace hp : wb_J7_fill_53178_5 G Sh N0 a0 p1 K (wp_J7_fill_53178_5 G Sh N0 a0 p1 K n) xl2 xl3 I L := hp
    unfold wb_J7_fill_53178_5 at hp
    refine lv_iload_n hx hb dJ7_fill_53178_5 rfl (lv_at hl 2 rfl) ?_
    refine lv_iload_n hx hb dJ7_fill_53178_6 rfl (lv_at hl 3 rfl) ?_
    refine lv_icmp_ge (tgt := 20) hx hb dJ7_fill_53178_7 (by decide) (fun hc_2 => ?_) (fun hc_2 => ?_)
    · replace hp := hp.1 hc_2
      exact r_vret hx hb hr hlocks hw hp dJ7_fill_53178_20
    · replace hp := hp.2 hc_2
      refine lv_aload_n hx hb dJ7_fill_53178_10 rfl (lv_at hl 0 rfl) ?_
      refine lv_iload_n hx hb dJ7_fill_53178_11 rfl (lv_at hl 2 rfl) ?_
      refine lv_iload_n hx hb dJ7_fill_53178_12 rfl (lv_at hl 1 rfl) ?_
      obtain ⟨hi_3, hp⟩ := hp
      refine r_iast hx hb hw (h0) hi_3 dJ7_fill_53178_13 (fun I_4 H locs eI_4 hw => ?_)
      replace hp := hp I_4 eI_4
      obtain ⟨x_5, ex_5⟩ : ∃ z : Int32, z = xl2 + (1 : Int32) := ⟨_, rfl⟩
      replace hp := hp x_5 ex_5
      refine lv_iinc (v := x_5) (lv' := [(2, .int x_5), (0, .ref a0), (1, .int p1), (3, .int xl3)]) hx hb dJ7_fill_53178_14 hl (k := 2) rfl (by rw [ex_5]; rfl) (by decide) rfl (fun ls hl => ?_)
      refine lv_goto (tgt := 5) hx hb dJ7_fill_53178_17 (by decide) ?_
      exact hB5 (x_5) (xl3) _ _ _ _ _ hp hw (lv_sub hl [1, 2, 0, 3] rfl)
set_option maxHeartbeats 4000000 in
set_option maxRecDepth 100000 in
theorem c_J7_fill_53178 (l : Launch) (G : GX) {Sh : SH} {N0 : Nat} {a0 : Nat} {p1 : Int32} (h0 : Sh a0 = some (sI G N0)) {I : MI} {L : ML} {K : MI → ML → Prop} (hp : wp_J7_fill_53178 G Sh N0 a0 p1 I L K) : CtV l yJ7_fill_53178 (wM yJ7_fill_53178 cJ7_fill_53178 4 none) (rmA 0 0) G Sh [.ref a0, .int p1] I L K := by
  refine ofA (own := RJ7) (by decide) rfl (Nat.le_of_ble_eq_true rfl) ?_
  intro p e s m args below meth c ls C hw hl
  obtain ⟨hx, hb, hr, hml, hown, hts, hlocks⟩ := id C
  replace hl : lv_has ls 4 [(0, .ref a0), (1, .int p1)] := hl
  unfold wp_J7_fill_53178 at hp
  refine lv_iconst (v := 0) hx hb dJ7_fill_53178_0 (by decide) ?_
  refine lv_istore_n (lv' := [(2, .int (0 : Int32)), (0, .ref a0), (1, .int p1)]) hx hb dJ7_fill_53178_1 rfl hl (by decide) rfl (fun ls hl => ?_)
  refine lv_aload_n hx hb dJ7_fill_53178_2 rfl (lv_at hl 1 rfl) ?_
  refine r_alenI (v := (Int32.ofNat N0)) hx hb hw (h0) rfl dJ7_fill_53178_3 ?_
  refine lv_topi (fun x_1 ex_1 => ?_)
  replace hp := hp x_1 ex_1
  refine lv_istore_n (lv' := [(3, .int x_1), (2, .int (0 : Int32)), (0, .ref a0), (1, .int p1)]) hx hb dJ7_fill_53178_4 rfl hl (by decide) rfl (fun ls hl => ?_)
  obtain ⟨n, hp⟩ := hp
  exact w_J7_fill_53178_5 C h0 n ((0 : Int32)) (x_1) _ _ _ _ _ hp hw (lv_sub hl [2, 3, 1, 0] rfl)
set_option maxHeartbeats 4000000 in
set_option maxRecDepth 100000 in
theorem c_X0_setShrink (l : Launch) (G : GX) {Sh : SH} {a0 : Nat} {p1 : Int32} {p2 : Int32} (h0 : Sh a0 = some sGlue) {I : MI} {L : ML} {K : MI → ML → Prop} (hp : wp_X0_setShrink G Sh a0 p1 p2 I L K) : CtV l yX0_setShrink (wM yX0_setShrink cX0_setShrink 3 none) (rmA 0 0) G Sh [.ref a0, .int p1, .int p2] I L K := by
  refine ofA (own := RX0) (by decide) rfl (Nat.le_of_ble_eq_true rfl) ?_
  intro p e s m args below meth c ls C hw hl
  obtain ⟨hx, hb, hr, hml, hown, hts, hlocks⟩ := id C
  replace hl : lv_has ls 3 [(0, .ref a0), (1, .int p1), (2, .int p2)] := hl
  unfold wp_X0_setShrink at hp
  refine lv_aload_n hx hb dX0_setShrink_0 rfl (lv_at hl 0 rfl) ?_
  refine lv_iload_n hx hb dX0_setShrink_1 rfl (lv_at hl 1 rfl) ?_
  refine pf_X0_19 hx hb hts hown hw (h0) dX0_setShrink_2 (fun I_1 H locs eI_1 hw => ?_)
  replace hp := hp I_1 eI_1
  refine lv_aload_n hx hb dX0_setShrink_5 rfl (lv_at hl 0 rfl) ?_
  refine lv_iload_n hx hb dX0_setShrink_6 rfl (lv_at hl 2 rfl) ?_
  refine pf_X0_22 hx hb hts hown hw (h0) dX0_setShrink_7 (fun I_2 H locs eI_2 hw => ?_)
  replace hp := hp I_2 eI_2
  exact r_vret hx hb hr hlocks hw hp dX0_setShrink_10
set_option maxHeartbeats 4000000 in
set_option maxRecDepth 100000 in
theorem c_X0_setStretch (l : Launch) (G : GX) {Sh : SH} {a0 : Nat} {p1 : Int32} {p2 : Int32} {p3 : Int32} (h0 : Sh a0 = some sGlue) {I : MI} {L : ML} {K : MI → ML → Prop} (hp : wp_X0_setStretch G Sh a0 p1 p2 p3 I L K) : CtV l yX0_setStretch (wM yX0_setStretch cX0_setStretch 4 none) (rmA 0 0) G Sh [.ref a0, .int p1, .int p2, .int p3] I L K := by
  refine ofA (own := RX0) (by decide) rfl (Nat.le_of_ble_eq_true rfl) ?_
  intro p e s m args below meth c ls C hw hl
  obtain ⟨hx, hb, hr, hml, hown, hts, hlocks⟩ := id C
  replace hl : lv_has ls 4 [(0, .ref a0), (1, .int p1), (2, .int p2), (3, .int p3)] := hl
  unfold wp_X0_setStretch at hp
  refine lv_aload_n hx hb dX0_setStretch_0 rfl (lv_at hl 0 rfl) ?_
  refine lv_iload_n hx hb dX0_setStretch_1 rfl (lv_at hl 1 rfl) ?_
  refine pf_X0_7 hx hb hts hown hw (h0) dX0_setStretch_2 (fun I_1 H locs eI_1 hw => ?_)
  replace hp := hp I_1 eI_1
  refine lv_aload_n hx hb dX0_setStretch_5 rfl (lv_at hl 0 rfl) ?_
  refine lv_iload_n hx hb dX0_setStretch_6 rfl (lv_at hl 2 rfl) ?_
  refine pf_X0_13 hx hb hts hown hw (h0) dX0_setStretch_7 (fun I_2 H locs eI_2 hw => ?_)
  replace hp := hp I_2 eI_2
  refine lv_aload_n hx hb dX0_setStretch_10 rfl (lv_at hl 0 rfl) ?_
  refine lv_iload_n hx hb dX0_setStretch_11 rfl (lv_at hl 3 rfl) ?_
  refine pf_X0_16 hx hb hts hown hw (h0) dX0_setStretch_12 (fun I_3 H locs eI_3 hw => ?_)
  replace hp := hp I_3 eI_3
  exact r_vret hx hb hr hlocks hw hp dX0_setStretch_15
set_option maxHeartbeats 4000000 in
set_option maxRecDepth 100000 in
theorem c_X6_isIn (l : Launch) (G : GX) {Sh : SH} {p0 : Int32} {p1 : Int32} {p2 : Int32}  {I : MI} {L : ML} {K : Int32 → MI → ML → Prop} (hp : wp_X6_isIn G Sh p0 p1 p2 I L K) : CtI l yX6_isIn (wM yX6_isIn cX6_isIn 3 (some .boolean)) (rmA 0 0) G Sh [.int p0, .int p1, .int p2] I L K := by
  refine ofA (own := RX6) (by decide) rfl (Nat.le_of_ble_eq_true rfl) ?_
  intro p e s m args below meth c ls C hw hl
  obtain ⟨hx, hb, hr, hml, hown, hts, hlocks⟩ := id C
  replace hl : lv_has ls 3 [(0, .int p0), (1, .int p1), (2, .int p2)] := hl
  unfold wp_X6_isIn at hp
  refine lv_iload_n hx hb dX6_isIn_0 rfl (lv_at hl 0 rfl) ?_
  refine lv_iload_n hx hb dX6_isIn_1 rfl (lv_at hl 1 rfl) ?_
  refine lv_icmp_lt (tgt := 14) hx hb dX6_isIn_2 (by decide) (fun hc_1 => ?_) (fun hc_1 => ?_)
  · replace hp := hp.1 hc_1
    refine lv_iconst (v := 0) hx hb dX6_isIn_14 (by decide) ?_
    exact r_zret hx hb hr hlocks hw ⟨rfl, hp⟩ dX6_isIn_15
  · replace hp := hp.2 hc_1
    refine lv_iload_n hx hb dX6_isIn_5 rfl (lv_at hl 0 rfl) ?_
    refine lv_iload_n hx hb dX6_isIn_6 rfl (lv_at hl 2 rfl) ?_
    refine lv_icmp_gt (tgt := 14) hx hb dX6_isIn_7 (by decide) (fun hc_2 => ?_) (fun hc_2 => ?_)
    · replace hp := hp.1 hc_2
      refine lv_iconst (v := 0) hx hb dX6_isIn_14 (by decide) ?_
      exact r_zret hx hb hr hlocks hw ⟨rfl, hp⟩ dX6_isIn_15
    · replace hp := hp.2 hc_2
      refine lv_iconst (v := 1) hx hb dX6_isIn_10 (by decide) ?_
      refine lv_goto (tgt := 15) hx hb dX6_isIn_11 (by decide) ?_
      exact r_zret hx hb hr hlocks hw ⟨rfl, hp⟩ dX6_isIn_15
set_option maxHeartbeats 4000000 in
set_option maxRecDepth 100000 in
theorem c_X1_hasColumn (l : Launch) (G : GX) {Sh : SH} {a0 : Nat} {p1 : Int32} (h0 : isLast G Sh a0) {I : MI} {L : ML} {K : Int32 → MI → ML → Prop} (hp : wp_X1_hasColumn G Sh a0 p1 I L K) : CtI l yX1_hasColumn (wM yX1_hasColumn cX1_hasColumn 2 (some .boolean)) (rmA 1 22) G Sh [.ref a0, .int p1] I L K := by
  refine ofA (own := RX1) (by decide) rfl (Nat.le_of_ble_eq_true rfl) ?_
  intro p e s m args below meth c ls C hw hl
  obtain ⟨hx, hb, hr, hml, hown, hts, hlocks⟩ := id C
  replace hl : lv_has ls 2 [(0, .ref a0), (1, .int p1)] := hl
  unfold wp_X1_hasColumn at hp
  refine lv_iload_n hx hb dX1_hasColumn_0 rfl (lv_at hl 1 rfl) ?_
  refine lv_iconst (v := 0) hx hb dX1_hasColumn_1 (by decide) ?_
  refine lv_aload_n hx hb dX1_hasColumn_2 rfl (lv_at hl 0 rfl) ?_
  refine gf_X1_43 hx hb hts hown hw (h0.1) dX1_hasColumn_3 ?_
  refine lv_iconst (v := 1) hx hb dX1_hasColumn_6 (by decide) ?_
  refine lv_isub hx hb dX1_hasColumn_7 ?_
  refine r_csNI (As := [.int p1, .int (0 : Int32), .int ((I a0 8) - (1 : Int32))]) ⟨hx, hb, hml, hown, hts⟩ (c_X6_isIn l G  hp) (cw_X1_177 hts hw ⟨Nat.le_of_ble_eq_true rfl, Nat.le_of_ble_eq_true rfl⟩) hw rfl rfl hl.1 (Nat.le_of_ble_eq_true rfl) ⟨Nat.zero_le _, Nat.zero_le _⟩ dX1_hasColumn_8 (fun r_1 I_2 L_3 H locs hp hw => ?_)
  exact r_zret hx hb hr hlocks hw hp dX1_hasColumn_11
set_option maxHeartbeats 4000000 in
set_option maxRecDepth 100000 in
theorem c_X1_boxPlace (l : Launch) (G : GX) {Sh : SH} {a0 : Nat} {p1 : Int32} {p2 : Int32} (h0 : isLast G Sh a0) {I : MI} {L : ML} {K : Int64 → MI → ML → Prop} (hp : wp_X1_boxPlace G Sh a0 p1 p2 I L K) : CtL l yX1_boxPlace (wM yX1_boxPlace cX1_boxPlace 3 (some .long)) (rmA 2 43) G Sh [.ref a0, .int p1, .int p2] I L K := by
  refine ofA (own := RX1) (by decide) rfl (Nat.le_of_ble_eq_true rfl) ?_
  intro p e s m args below meth c ls C hw hl
  obtain ⟨hx, hb, hr, hml, hown, hts, hlocks⟩ := id C
  replace hl : lv_has ls 3 [(0, .ref a0), (1, .int p1), (2, .int p2)] := hl
  unfold wp_X1_boxPlace at hp
  refine lv_aload_n hx hb dX1_boxPlace_0 rfl (lv_at hl 0 rfl) ?_
  refine lv_iload_n hx hb dX1_boxPlace_1 rfl (lv_at hl 1 rfl) ?_
  refine lv_iload_n hx hb dX1_boxPlace_2 rfl (lv_at hl 2 rfl) ?_
  refine lv_iadd hx hb dX1_boxPlace_3 ?_
  refine lv_iconst (v := 1) hx hb dX1_boxPlace_4 (by decide) ?_
  refine lv_isub hx hb dX1_boxPlace_5 ?_
  refine r_cvI (As := [.int ((p1 + p2) - (1 : Int32))]) ⟨hx, hb, hml, hown, hts⟩ (c_X1_hasColumn l G (h0) hp) (cw_X1_181 hts ⟨Nat.le_of_ble_eq_true rfl, Nat.le_of_ble_eq_true rfl⟩) hw (hw.recv (h0.1) rfl rfl) rfl rfl hl.1 (Nat.le_of_ble_eq_true rfl) ⟨Nat.zero_le _, Nat.zero_le _⟩ dX1_boxPlace_6 (fun r_1 I_2 L_3 H locs hp hw => ?_)
  refine lv_if_eq (tgt := 21) hx hb dX1_boxPlace_9 (by decide) (fun hc_4 => ?_) (fun hc_4 => ?_)
  · replace hp := hp.1 hc_4
    refine lv_lconst (v := 0) hx hb dX1_boxPlace_21 (by decide) ?_
    exact r_lret hx hb hr hlocks hw hp dX1_boxPlace_22
  · replace hp := hp.2 hc_4
    refine lv_aload_n hx hb dX1_boxPlace_12 rfl (lv_at hl 0 rfl) ?_
    refine gf_X1_19 hx hb hts hown hw (h0.1) dX1_boxPlace_13 ?_
    refine lv_iload_n hx hb dX1_boxPlace_16 rfl (lv_at hl 1 rfl) ?_
    obtain ⟨hi_5, hp⟩ := hp
    refine r_lald hx hb hw (h0.2.2.2.1) hi_5 dX1_boxPlace_17 ?_
    refine lv_goto (tgt := 22) hx hb dX1_boxPlace_18 (by decide) ?_
    exact r_lret hx hb hr hlocks hw hp dX1_boxPlace_22
set_option maxHeartbeats 4000000 in
set_option maxRecDepth 100000 in
theorem c_X1_boxWidth (l : Launch) (G : GX) {Sh : SH} {a0 : Nat} {p1 : Int32} {p2 : Int32} (h0 : isLast G Sh a0) {I : MI} {L : ML} {K : Int64 → MI → ML → Prop} (hp : wp_X1_boxWidth G Sh a0 p1 p2 I L K) : CtL l yX1_boxWidth (wM yX1_boxWidth cX1_boxWidth 4 (some .long)) (rmA 2 43) G Sh [.ref a0, .int p1, .int p2] I L K := by
  refine ofA (own := RX1) (by decide) rfl (Nat.le_of_ble_eq_true rfl) ?_
  intro p e s m args below meth c ls C hw hl
  obtain ⟨hx, hb, hr, hml, hown, hts, hlocks⟩ := id C
  replace hl : lv_has ls 4 [(0, .ref a0), (1, .int p1), (2, .int p2)] := hl
  unfold wp_X1_boxWidth at hp
  refine lv_iload_n hx hb dX1_boxWidth_0 rfl (lv_at hl 1 rfl) ?_
  refine lv_iload_n hx hb dX1_boxWidth_1 rfl (lv_at hl 2 rfl) ?_
  refine lv_iadd hx hb dX1_boxWidth_2 ?_
  refine lv_iconst (v := 1) hx hb dX1_boxWidth_3 (by decide) ?_
  refine lv_isub hx hb dX1_boxWidth_4 ?_
  refine lv_topi (fun x_1 ex_1 => ?_)
  replace hp := hp x_1 ex_1
  refine lv_istore_n (lv' := [(3, .int x_1), (0, .ref a0), (1, .int p1), (2, .int p2)]) hx hb dX1_boxWidth_5 rfl hl (by decide) rfl (fun ls hl => ?_)
  refine lv_aload_n hx hb dX1_boxWidth_6 rfl (lv_at hl 1 rfl) ?_
  refine lv_iload_n hx hb dX1_boxWidth_7 rfl (lv_at hl 0 rfl) ?_
  refine r_cvI (As := [.int x_1]) ⟨hx, hb, hml, hown, hts⟩ (c_X1_hasColumn l G (h0) hp) (cw_X1_181 hts ⟨Nat.le_of_ble_eq_true rfl, Nat.le_of_ble_eq_true rfl⟩) hw (hw.recv (h0.1) rfl rfl) rfl rfl hl.1 (Nat.le_of_ble_eq_true rfl) ⟨Nat.zero_le _, Nat.zero_le _⟩ dX1_boxWidth_8 (fun r_2 I_3 L_4 H locs hp hw => ?_)
  refine lv_if_eq (tgt := 38) hx hb dX1_boxWidth_11 (by decide) (fun hc_5 => ?_) (fun hc_5 => ?_)
  · replace hp := hp.1 hc_5
    refine lv_lconst (v := 0) hx hb dX1_boxWidth_38 (by decide) ?_
    exact r_lret hx hb hr hlocks hw hp dX1_boxWidth_39
  · replace hp := hp.2 hc_5
    refine lv_aload_n hx hb dX1_boxWidth_14 rfl (lv_at hl 1 rfl) ?_
    refine gf_X1_19 hx hb hts hown hw (h0.1) dX1_boxWidth_15 ?_
    refine lv_iload_n hx hb dX1_boxWidth_18 rfl (lv_at hl 0 rfl) ?_
    obtain ⟨hi_6, hp⟩ := hp
    refine r_lald hx hb hw (h0.2.2.2.1) hi_6 dX1_boxWidth_19 ?_
    refine lv_aload_n hx hb dX1_boxWidth_20 rfl (lv_at hl 1 rfl) ?_
    refine gf_X1_9 hx hb hts hown hw (h0.1) dX1_boxWidth_21 ?_
    refine lv_iload_n hx hb dX1_boxWidth_24 rfl (lv_at hl 0 rfl) ?_
    obtain ⟨hi_7, hp⟩ := hp
    refine r_iald hx hb hw (h0.2.1) hi_7 dX1_boxWidth_25 ?_
    refine lv_i2l hx hb dX1_boxWidth_26 rfl ?_
    refine lv_ladd hx hb dX1_boxWidth_27 ?_
    refine lv_aload_n hx hb dX1_boxWidth_28 rfl (lv_at hl 1 rfl) ?_
    refine gf_X1_19 hx hb hts hown hw (h0.1) dX1_boxWidth_29 ?_
    refine lv_iload_n hx hb dX1_boxWidth_32 rfl (lv_at hl 2 rfl) ?_
    obtain ⟨hi_8, hp⟩ := hp
    refine r_lald hx hb hw (h0.2.2.2.1) hi_8 dX1_boxWidth_33 ?_
    refine lv_lsub hx hb dX1_boxWidth_34 ?_
    refine lv_goto (tgt := 39) hx hb dX1_boxWidth_35 (by decide) ?_
    exact r_lret hx hb hr hlocks hw hp dX1_boxWidth_39
set_option maxHeartbeats 4000000 in
set_option maxRecDepth 100000 in
theorem c_X1_giveOf (l : Launch) (G : GX) {Sh : SH} {a0 : Nat} {p1 : Int32} (h0 : isLast G Sh a0) {I : MI} {L : ML} {K : Int64 → MI → ML → Prop} (hp : wp_X1_giveOf G Sh a0 p1 I L K) : CtL l yX1_giveOf (wM yX1_giveOf cX1_giveOf 2 (some .long)) (rmA 0 0) G Sh [.ref a0, .int p1] I L K := by
  refine ofA (own := RX1) (by decide) rfl (Nat.le_of_ble_eq_true rfl) ?_
  intro p e s m args below meth c ls C hw hl
  obtain ⟨hx, hb, hr, hml, hown, hts, hlocks⟩ := id C
  replace hl : lv_has ls 2 [(0, .ref a0), (1, .int p1)] := hl
  unfold wp_X1_giveOf at hp
  refine lv_aload_n hx hb dX1_giveOf_0 rfl (lv_at hl 0 rfl) ?_
  refine gf_X1_29 hx hb hts hown hw (h0.1) dX1_giveOf_1 ?_
  refine lv_iload_n hx hb dX1_giveOf_4 rfl (lv_at hl 1 rfl) ?_
  obtain ⟨hi_1, hp⟩ := hp
  refine r_iald hx hb hw (h0.2.2.2.2.2.2.1) hi_1 dX1_giveOf_5 ?_
  refine lv_aload_n hx hb dX1_giveOf_6 rfl (lv_at hl 0 rfl) ?_
  refine gf_X1_53 hx hb hts hown hw (h0.1) dX1_giveOf_7 ?_
  refine lv_icmp_ne (tgt := 23) hx hb dX1_giveOf_10 (by decide) (fun hc_2 => ?_) (fun hc_2 => ?_)
  · replace hp := hp.2 hc_2
    refine lv_lconst (v := 0) hx hb dX1_giveOf_23 (by decide) ?_
    exact r_lret hx hb hr hlocks hw hp dX1_giveOf_24
  · replace hp := hp.1 hc_2
    refine lv_aload_n hx hb dX1_giveOf_13 rfl (lv_at hl 0 rfl) ?_
    refine gf_X1_26 hx hb hts hown hw (h0.1) dX1_giveOf_14 ?_
    refine lv_iload_n hx hb dX1_giveOf_17 rfl (lv_at hl 1 rfl) ?_
    obtain ⟨hi_3, hp⟩ := hp
    refine r_iald hx hb hw (h0.2.2.2.2.2.1) hi_3 dX1_giveOf_18 ?_
    refine lv_i2l hx hb dX1_giveOf_19 rfl ?_
    refine lv_goto (tgt := 24) hx hb dX1_giveOf_20 (by decide) ?_
    exact r_lret hx hb hr hlocks hw hp dX1_giveOf_24
set_option maxHeartbeats 4000000 in
set_option maxRecDepth 100000 in
theorem w_X1_findPlaces_88 {p : Program} {l : Launch} {e : Env} {s : State} {m : MethodId} {args : Array Value} {below : List Frame} {meth : Method} {c : Code} (C : Cx p s m args meth c cX1_findPlaces none 12 RX1) {G : GX} {Sh : SH} {a0 : Nat} {p1 : Int64} {p3 : Int64} {B9 : Int64 → Int64 → Int32 → MI → ML → Prop} {K : MI → ML → Prop} (h0 : isLast G Sh a0) (hB9 : ∀ (yl5 : Int64) (yl7 : Int64) (xl9 : Int32) (I : MI) (L : ML) (H : Heap) (locs : List Loc) (ls : Array Slot), B9 yl5 yl7 xl9 I L → mW G Sh s I L H locs → lv_has ls 12 [(0, .ref a0), (1, .long p1), (3, .long p3), (5, .long yl5), (7, .long yl7), (9, .int xl9)] → W p l e (rmA 1 21) s m args below meth c H locs 0 0 (eV below G Sh K args s) (F0 m 9 ls [])) : ∀ (yl5 : Int64) (yl7 : Int64) (xl9 : Int32) (ys0 : Int64) (xs1 : Int32) (I : MI) (L : ML) (H : Heap) (locs : List Loc) (ls : Array Slot), wp_X1_findPlaces_88 G Sh a0 p1 p3 B9 K yl5 yl7 xl9 ys0 xs1 I L → mW G Sh s I L H locs → lv_has ls 12 [(0, .ref a0), (1, .long p1), (3, .long p3), (5, .long yl5), (7, .long yl7), (9, .int xl9)] → W p l e (rmA 1 21) s m args below meth c H locs 0 0 (eV below G Sh K args s) (F0 m 88 ls [.long ys0, .int xs1, .ref (a0 + 3)]) := by
  obtain ⟨hx, hb, hr, hml, hown, hts, hlocks⟩ := id C
  intro yl5 yl7 xl9 ys0 xs1 I L H locs ls hp hw hl
  unfold wp_X1_findPlaces_88 at hp
  obtain ⟨hi_11, hp⟩ := hp
  refine r_last hx hb hw (h0.2.2.2.1) hi_11 dX1_findPlaces_88 (fun L_12 H locs eL_12 hw => ?_)
  replace hp := hp L_12 eL_12
  refine lv_lload hx hb dX1_findPlaces_89 (lv_at hl 3 rfl) ?_
  refine lv_aload_n hx hb dX1_findPlaces_91 rfl (lv_at hl 0 rfl) ?_
  refine gf_X1_9 hx hb hts hown hw (h0.1) dX1_findPlaces_92 ?_
  refine lv_iload hx hb dX1_findPlaces_95 (lv_at hl 5 rfl) ?_
  obtain ⟨hi_13, hp⟩ := hp
  refine r_iald hx hb hw (h0.2.1) hi_13 dX1_findPlaces_97 ?_
  refine lv_i2l hx hb dX1_findPlaces_98 rfl ?_
  refine lv_ladd hx hb dX1_findPlaces_99 ?_
  refine lv_topl (fun y_14 ey_14 => ?_)
  replace hp := hp y_14 ey_14
  refine lv_lstore (lv' := [(5, .long y_14), (0, .ref a0), (1, .long p1), (3, .long p3), (7, .long yl7), (9, .int xl9)]) hx hb dX1_findPlaces_100 hl (by decide) rfl (fun ls hl => ?_)
  obtain ⟨x_15, ex_15⟩ : ∃ z : Int32, z = xl9 + (1 : Int32) := ⟨_, rfl⟩
  replace hp := hp x_15 ex_15
  refine lv_iinc (v := x_15) (lv' := [(9, .int x_15), (5, .long y_14), (0, .ref a0), (1, .long p1), (3, .long p3), (7, .long yl7)]) hx hb dX1_findPlaces_102 hl (k := 5) rfl (by rw [ex_15]; rfl) (by decide) rfl (fun ls hl => ?_)
  refine lv_goto (tgt := 9) hx hb dX1_findPlaces_105 (by decide) ?_
  exact hB9 (y_14) (yl7) (x_15) _ _ _ _ _ hp hw (lv_sub hl [2, 3, 4, 1, 5, 0] rfl)
set_option maxHeartbeats 4000000 in
set_option maxRecDepth 100000 in
theorem w_X1_findPlaces_58 {p : Program} {l : Launch} {e : Env} {s : State} {m : MethodId} {args : Array Value} {below : List Frame} {meth : Method} {c : Code} (C : Cx p s m args meth c cX1_findPlaces none 12 RX1) {G : GX} {Sh : SH} {a0 : Nat} {p1 : Int64} {p3 : Int64} {B9 : Int64 → Int64 → Int32 → MI → ML → Prop} {K : MI → ML → Prop} (h0 : isLast G Sh a0) (hB9 : ∀ (yl5 : Int64) (yl7 : Int64) (xl9 : Int32) (I : MI) (L : ML) (H : Heap) (locs : List Loc) (ls : Array Slot), B9 yl5 yl7 xl9 I L → mW G Sh s I L H locs → lv_has ls 12 [(0, .ref a0), (1, .long p1), (3, .long p3), (5, .long yl5), (7, .long yl7), (9, .int xl9)] → W p l e (rmA 1 21) s m args below meth c H locs 0 0 (eV below G Sh K args s) (F0 m 9 ls [])) : ∀ (yl5 : Int64) (yl7 : Int64) (xl9 : Int32) (ys0 : Int64) (I : MI) (L : ML) (H : Heap) (locs : List Loc) (ls : Array Slot), wp_X1_findPlaces_58 G Sh a0 p1 p3 B9 K yl5 yl7 xl9 ys0 I L → mW G Sh s I L H locs → lv_has ls 12 [(0, .ref a0), (1, .long p1), (3, .long p3), (5, .long yl5), (7, .long yl7), (9, .int xl9)] → W p l e (rmA 1 21) s m args below meth c H locs 0 0 (eV below G Sh K args s) (F0 m 58 ls [.long ys0]) := by
  obtain ⟨hx, hb, hr, hml, hown, hts, hlocks⟩ := id C
  intro yl5 yl7 xl9 ys0 I L H locs ls hp hw hl
  unfold wp_X1_findPlaces_58 at hp
  refine lv_lstore (lv' := [(10, .long ys0), (0, .ref a0), (1, .long p1), (3, .long p3), (5, .long yl5), (7, .long yl7), (9, .int xl9)]) hx hb dX1_findPlaces_58 hl (by decide) rfl (fun ls hl => ?_)
  refine lv_aload_n hx hb dX1_findPlaces_60 rfl (lv_at hl 1 rfl) ?_
  refine gf_X1_19 hx hb hts hown hw (h0.1) dX1_findPlaces_61 ?_
  refine lv_iload hx hb dX1_findPlaces_64 (lv_at hl 6 rfl) ?_
  refine lv_aload_n hx hb dX1_findPlaces_66 rfl (lv_at hl 1 rfl) ?_
  refine gf_X1_50 hx hb hts hown hw (h0.1) dX1_findPlaces_67 ?_
  refine lv_lconst (v := 0) hx hb dX1_findPlaces_70 (by decide) ?_
  refine W.lcmp hx hb dX1_findPlaces_71 ?_
  refine lv_if_ge (tgt := 83) hx hb dX1_findPlaces_72 (by decide) (fun hc_10 => ?_) (fun hc_10 => ?_)
  · replace hp := hp.1 hc_10
    refine lv_lload hx hb dX1_findPlaces_83 (lv_at hl 4 rfl) ?_
    refine lv_lload hx hb dX1_findPlaces_85 (lv_at hl 0 rfl) ?_
    refine lv_ladd hx hb dX1_findPlaces_87 ?_
    exact w_X1_findPlaces_88 C h0 hB9 (yl5) (yl7) (xl9) ((yl5 + ys0)) (xl9) _ _ _ _ _ hp hw (lv_sub hl [1, 2, 3, 4, 5, 6] rfl)
  · replace hp := hp.2 hc_10
    refine lv_lload hx hb dX1_findPlaces_75 (lv_at hl 4 rfl) ?_
    refine lv_lload hx hb dX1_findPlaces_77 (lv_at hl 0 rfl) ?_
    refine lv_lsub hx hb dX1_findPlaces_79 ?_
    refine lv_goto (tgt := 88) hx hb dX1_findPlaces_80 (by decide) ?_
    exact w_X1_findPlaces_88 C h0 hB9 (yl5) (yl7) (xl9) ((yl5 - ys0)) (xl9) _ _ _ _ _ hp hw (lv_sub hl [1, 2, 3, 4, 5, 6] rfl)
set_option maxHeartbeats 4000000 in
set_option maxRecDepth 100000 in
theorem w_X1_findPlaces_9 {p : Program} {l : Launch} {e : Env} {s : State} {m : MethodId} {args : Array Value} {below : List Frame} {meth : Method} {c : Code} (C : Cx p s m args meth c cX1_findPlaces none 12 RX1) {G : GX} {Sh : SH} {a0 : Nat} {p1 : Int64} {p3 : Int64} {K : MI → ML → Prop} (h0 : isLast G Sh a0) : ∀ (n : Nat) (yl5 : Int64) (yl7 : Int64) (xl9 : Int32) (I : MI) (L : ML) (H : Heap) (locs : List Loc) (ls : Array Slot), wp_X1_findPlaces_9 G Sh a0 p1 p3 K n yl5 yl7 xl9 I L → mW G Sh s I L H locs → lv_has ls 12 [(0, .ref a0), (1, .long p1), (3, .long p3), (5, .long yl5), (7, .long yl7), (9, .int xl9)] → W p l e (rmA 1 21) s m args below meth c H locs 0 0 (eV below G Sh K args s) (F0 m 9 ls []) := by
  obtain ⟨hx, hb, hr, hml, hown, hts, hlocks⟩ := id C
  intro n
  induction n with
  | zero => intro yl5 yl7 xl9 I L H locs ls hp hw hl; exact hp.elim
  | succ n hB9 =>
    intro yl5 yl7 xl9 I L H locs ls hp hw hl
    replace hp : wb_X1_findPlaces_9 G Sh a0 p1 p3 K (wp_X1_findPlaces_9 G Sh a0 p1 p3 K n) yl5 yl7 xl9 I L := hp
    unfold wb_X1_findPlaces_9 at hp
    refine lv_iload hx hb dX1_findPlaces_9 (lv_at hl 5 rfl) ?_
    refine lv_aload_n hx hb dX1_findPlaces_11 rfl (lv_at hl 0 rfl) ?_
    refine gf_X1_43 hx hb hts hown hw (h0.1) dX1_findPlaces_12 ?_
    refine lv_icmp_ge (tgt := 108) hx hb dX1_findPlaces_15 (by decide) (fun hc_1 => ?_) (fun hc_1 => ?_)
    · replace hp := hp.1 hc_1
      exact r_vret hx hb hr hlocks hw hp dX1_findPlaces_108
    · replace hp := hp.2 hc_1
      refine lv_lload hx hb dX1_findPlaces_18 (lv_at hl 3 rfl) ?_
      refine lv_aload_n hx hb dX1_findPlaces_20 rfl (lv_at hl 0 rfl) ?_
      refine gf_X1_23 hx hb hts hown hw (h0.1) dX1_findPlaces_21 ?_
      refine lv_iload hx hb dX1_findPlaces_24 (lv_at hl 5 rfl) ?_
      obtain ⟨hi_2, hp⟩ := hp
      refine r_iald hx hb hw (h0.2.2.2.2.1) hi_2 dX1_findPlaces_26 ?_
      refine lv_i2l hx hb dX1_findPlaces_27 rfl ?_
      refine lv_ladd hx hb dX1_findPlaces_28 ?_
      refine lv_topl (fun y_3 ey_3 => ?_)
      replace hp := hp y_3 ey_3
      refine lv_lstore (lv' := [(5, .long y_3), (0, .ref a0), (1, .long p1), (3, .long p3), (7, .long yl7), (9, .int xl9)]) hx hb dX1_findPlaces_29 hl (by decide) rfl (fun ls hl => ?_)
      refine lv_lload hx hb dX1_findPlaces_31 (lv_at hl 4 rfl) ?_
      refine lv_aload_n hx hb dX1_findPlaces_33 rfl (lv_at hl 1 rfl) ?_
      refine lv_iload hx hb dX1_findPlaces_34 (lv_at hl 5 rfl) ?_
      refine r_cvL (As := [.int xl9]) ⟨hx, hb, hml, hown, hts⟩ (c_X1_giveOf l G (h0) hp) (cw_X1_156 hts ⟨Nat.le_of_ble_eq_true rfl, Nat.le_of_ble_eq_true rfl⟩) hw (hw.recv (h0.1) rfl rfl) rfl rfl hl.1 (Nat.le_of_ble_eq_true rfl) ⟨Nat.zero_le _, Nat.zero_le _⟩ dX1_findPlaces_36 (fun r_4 I_5 L_6 H locs hp hw => ?_)
      refine lv_ladd hx hb dX1_findPlaces_39 ?_
      refine lv_topl (fun y_7 ey_7 => ?_)
      replace hp := hp y_7 ey_7
      refine lv_lstore (lv' := [(7, .long y_7), (5, .long y_3), (0, .ref a0), (1, .long p1), (3, .long p3), (9, .int xl9)]) hx hb dX1_findPlaces_40 hl (by decide) rfl (fun ls hl => ?_)
      refine lv_lload_n hx hb dX1_findPlaces_42 rfl (lv_at hl 4 rfl) ?_
      refine lv_lconst (v := 0) hx hb dX1_findPlaces_43 (by decide) ?_
      refine W.lcmp hx hb dX1_findPlaces_44 ?_
      refine lv_if_ne (tgt := 52) hx hb dX1_findPlaces_45 (by decide) (fun hc_8 => ?_) (fun hc_8 => ?_)
      · replace hp := hp.2 hc_8
        refine lv_lload_n hx hb dX1_findPlaces_52 rfl (lv_at hl 3 rfl) ?_
        refine lv_lload hx hb dX1_findPlaces_53 (lv_at hl 0 rfl) ?_
        refine lv_lmul hx hb dX1_findPlaces_55 ?_
        refine lv_lload_n hx hb dX1_findPlaces_56 rfl (lv_at hl 4 rfl) ?_
        obtain ⟨hz_9, hp⟩ := hp
        refine lv_ldiv hx hb dX1_findPlaces_57 hz_9 ?_
        exact w_X1_findPlaces_58 C h0 hB9 (y_3) (y_7) (xl9) (((p1 * y_7) / p3)) _ _ _ _ _ hp hw (lv_sub hl [2, 3, 4, 1, 0, 5] rfl)
      · replace hp := hp.1 hc_8
        refine lv_lconst (v := 0) hx hb dX1_findPlaces_48 (by decide) ?_
        refine lv_goto (tgt := 58) hx hb dX1_findPlaces_49 (by decide) ?_
        exact w_X1_findPlaces_58 C h0 hB9 (y_3) (y_7) (xl9) ((0 : Int64)) _ _ _ _ _ hp hw (lv_sub hl [2, 3, 4, 1, 0, 5] rfl)
set_option maxHeartbeats 4000000 in
set_option maxRecDepth 100000 in
theorem c_X1_findPlaces (l : Launch) (G : GX) {Sh : SH} {a0 : Nat} {p1 : Int64} {p3 : Int64} (h0 : isLast G Sh a0) {I : MI} {L : ML} {K : MI → ML → Prop} (hp : wp_X1_findPlaces G Sh a0 p1 p3 I L K) : CtV l yX1_findPlaces (wM yX1_findPlaces cX1_findPlaces 12 none) (rmA 1 21) G Sh [.ref a0, .long p1, .long p3] I L K := by
  refine ofA (own := RX1) (by decide) rfl (Nat.le_of_ble_eq_true rfl) ?_
  intro p e s m args below meth c ls C hw hl
  obtain ⟨hx, hb, hr, hml, hown, hts, hlocks⟩ := id C
  replace hl : lv_has ls 12 [(0, .ref a0), (1, .long p1), (3, .long p3)] := hl
  unfold wp_X1_findPlaces at hp
  refine lv_lconst (v := 0) hx hb dX1_findPlaces_0 (by decide) ?_
  refine lv_lstore (lv' := [(5, .long (0 : Int64)), (0, .ref a0), (1, .long p1), (3, .long p3)]) hx hb dX1_findPlaces_1 hl (by decide) rfl (fun ls hl => ?_)
  refine lv_lconst (v := 0) hx hb dX1_findPlaces_3 (by decide) ?_
  refine lv_lstore (lv' := [(7, .long (0 : Int64)), (5, .long (0 : Int64)), (0, .ref a0), (1, .long p1), (3, .long p3)]) hx hb dX1_findPlaces_4 hl (by decide) rfl (fun ls hl => ?_)
  refine lv_iconst (v := 0) hx hb dX1_findPlaces_6 (by decide) ?_
  refine lv_istore (lv' := [(9, .int (0 : Int32)), (7, .long (0 : Int64)), (5, .long (0 : Int64)), (0, .ref a0), (1, .long p1), (3, .long p3)]) hx hb dX1_findPlaces_7 hl (by decide) rfl (fun ls hl => ?_)
  obtain ⟨n, hp⟩ := hp
  exact w_X1_findPlaces_9 C h0 n ((0 : Int64)) ((0 : Int64)) ((0 : Int32)) _ _ _ _ _ hp hw (lv_sub hl [3, 4, 5, 2, 1, 0] rfl)
set_option maxHeartbeats 4000000 in
set_option maxRecDepth 100000 in
theorem c_X3_templateOf (l : Launch) (G : GX) {Sh : SH} {a0 : Nat} {p1 : Int32} (h0 : isPre G Sh a0) {I : MI} {L : ML} {K : Int32 → MI → ML → Prop} (hp : wp_X3_templateOf G Sh a0 p1 I L K) : CtI l yX3_templateOf (wM yX3_templateOf cX3_templateOf 3 (some .int)) (rmA 0 0) G Sh [.ref a0, .int p1] I L K := by
  refine ofA (own := RX3) (by decide) rfl (Nat.le_of_ble_eq_true rfl) ?_
  intro p e s m args below meth c ls C hw hl
  obtain ⟨hx, hb, hr, hml, hown, hts, hlocks⟩ := id C
  replace hl : lv_has ls 3 [(0, .ref a0), (1, .int p1)] := hl
  unfold wp_X3_templateOf at hp
  refine lv_aload_n hx hb dX3_templateOf_0 rfl (lv_at hl 0 rfl) ?_
  refine gf_X3_30 hx hb hts hown hw (h0.1) dX3_templateOf_1 ?_
  refine lv_aload_n hx hb dX3_templateOf_4 rfl (lv_at hl 0 rfl) ?_
  refine gf_X3_33 hx hb hts hown hw (h0.1) dX3_templateOf_5 ?_
  refine lv_isub hx hb dX3_templateOf_8 ?_
  refine lv_topi (fun x_1 ex_1 => ?_)
  replace hp := hp x_1 ex_1
  refine lv_istore_n (lv' := [(2, .int x_1), (0, .ref a0), (1, .int p1)]) hx hb dX3_templateOf_9 rfl hl (by decide) rfl (fun ls hl => ?_)
  refine lv_iload_n hx hb dX3_templateOf_10 rfl (lv_at hl 2 rfl) ?_
  refine lv_aload_n hx hb dX3_templateOf_11 rfl (lv_at hl 1 rfl) ?_
  refine gf_X3_30 hx hb hts hown hw (h0.1) dX3_templateOf_12 ?_
  refine lv_icmp_lt (tgt := 30) hx hb dX3_templateOf_15 (by decide) (fun hc_2 => ?_) (fun hc_2 => ?_)
  · replace hp := hp.1 hc_2
    refine lv_iload_n hx hb dX3_templateOf_30 rfl (lv_at hl 2 rfl) ?_
    exact r_iret hx hb hr hlocks hw hp dX3_templateOf_31
  · replace hp := hp.2 hc_2
    refine lv_aload_n hx hb dX3_templateOf_18 rfl (lv_at hl 1 rfl) ?_
    refine gf_X3_33 hx hb hts hown hw (h0.1) dX3_templateOf_19 ?_
    refine lv_iconst (v := (-1)) hx hb dX3_templateOf_22 (by decide) ?_
    refine lv_icmp_eq (tgt := 30) hx hb dX3_templateOf_23 (by decide) (fun hc_3 => ?_) (fun hc_3 => ?_)
    · replace hp := hp.1 hc_3
      refine lv_iload_n hx hb dX3_templateOf_30 rfl (lv_at hl 2 rfl) ?_
      exact r_iret hx hb hr hlocks hw hp dX3_templateOf_31
    · replace hp := hp.2 hc_3
      refine lv_iload_n hx hb dX3_templateOf_26 rfl (lv_at hl 0 rfl) ?_
      refine lv_if_gt (tgt := 32) hx hb dX3_templateOf_27 (by decide) (fun hc_4 => ?_) (fun hc_4 => ?_)
      · replace hp := hp.1 hc_4
        refine lv_aload_n hx hb dX3_templateOf_32 rfl (lv_at hl 1 rfl) ?_
        refine gf_X3_33 hx hb hts hown hw (h0.1) dX3_templateOf_33 ?_
        refine lv_iload_n hx hb dX3_templateOf_36 rfl (lv_at hl 2 rfl) ?_
        refine lv_aload_n hx hb dX3_templateOf_37 rfl (lv_at hl 1 rfl) ?_
        refine gf_X3_33 hx hb hts hown hw (h0.1) dX3_templateOf_38 ?_
        refine lv_isub hx hb dX3_templateOf_41 ?_
        refine lv_iload_n hx hb dX3_templateOf_42 rfl (lv_at hl 0 rfl) ?_
        obtain ⟨hz_5, hp⟩ := hp
        refine lv_irem hx hb dX3_templateOf_43 hz_5 ?_
        refine lv_iadd hx hb dX3_templateOf_44 ?_
        exact r_iret hx hb hr hlocks hw hp dX3_templateOf_45
      · replace hp := hp.2 hc_4
        refine lv_iload_n hx hb dX3_templateOf_30 rfl (lv_at hl 2 rfl) ?_
        exact r_iret hx hb hr hlocks hw hp dX3_templateOf_31
set_option maxHeartbeats 4000000 in
set_option maxRecDepth 100000 in
theorem c_X5_glueAt (l : Launch) (G : GX) {Sh : SH} {a0 : Nat} {p1 : Int32} (h0 : isTable G Sh a0) {I : MI} {L : ML} {K : Option Nat → MI → ML → Prop} (hp : wp_X5_glueAt G Sh a0 p1 I L K) : CtQ l yX5_glueAt (wM yX5_glueAt cX5_glueAt 2 (some (.object "AlignRows$Glue"))) (rmA 1 22) G Sh [.ref a0, .int p1] I L K := by
  refine ofA (own := RX5) (by decide) rfl (Nat.le_of_ble_eq_true rfl) ?_
  intro p e s m args below meth c ls C hw hl
  obtain ⟨hx, hb, hr, hml, hown, hts, hlocks⟩ := id C
  replace hl : lv_has ls 2 [(0, .ref a0), (1, .int p1)] := hl
  unfold wp_X5_glueAt at hp
  refine lv_iload_n hx hb dX5_glueAt_0 rfl (lv_at hl 1 rfl) ?_
  refine lv_if_ne (tgt := 13) hx hb dX5_glueAt_1 (by decide) (fun hc_1 => ?_) (fun hc_1 => ?_)
  · replace hp := hp.2 hc_1
    refine lv_aload_n hx hb dX5_glueAt_13 rfl (lv_at hl 0 rfl) ?_
    refine gf_X5_20 hx hb hts hown hw (h0.1) dX5_glueAt_14 ?_
    refine lv_aload_n hx hb dX5_glueAt_17 rfl (lv_at hl 0 rfl) ?_
    refine gf_X5_12 hx hb hts hown hw (h0.1) dX5_glueAt_18 ?_
    refine lv_iload_n hx hb dX5_glueAt_21 rfl (lv_at hl 1 rfl) ?_
    refine lv_iconst (v := 1) hx hb dX5_glueAt_22 (by decide) ?_
    refine lv_isub hx hb dX5_glueAt_23 ?_
    refine r_cvI (As := [.int (p1 - (1 : Int32))]) ⟨hx, hb, hml, hown, hts⟩ (c_X3_templateOf l G (h0.2.1) hp) (cw_X5_93 hts ⟨Nat.le_of_ble_eq_true rfl, Nat.le_of_ble_eq_true rfl⟩) hw (hw.recv (h0.2.1.1) rfl rfl) rfl rfl hl.1 (Nat.le_of_ble_eq_true rfl) ⟨Nat.zero_le _, Nat.zero_le _⟩ dX5_glueAt_24 (fun r_2 I_3 L_4 H locs hp hw => ?_)
    refine lv_iconst (v := 1) hx hb dX5_glueAt_27 (by decide) ?_
    refine lv_iadd hx hb dX5_glueAt_28 ?_
    refine lv_topi (fun x_5 ex_5 => ?_)
    replace hp := hp x_5 ex_5
    obtain ⟨hi_6, hp⟩ := hp
    refine r_aaldF hx hb hw (h0.2.2.1) rfl hi_6 (b := (a0 + 41 + (x_5).toNatClampNeg)) (if_pos (vp_lt hi_6)) dX5_glueAt_29 ?_
    exact r_qret (r := (some (a0 + 41 + (x_5).toNatClampNeg))) hx hb hr hlocks hw hp dX5_glueAt_30
  · replace hp := hp.1 hc_1
    refine lv_aload_n hx hb dX5_glueAt_4 rfl (lv_at hl 0 rfl) ?_
    refine gf_X5_20 hx hb hts hown hw (h0.1) dX5_glueAt_5 ?_
    refine lv_iconst (v := 0) hx hb dX5_glueAt_8 (by decide) ?_
    obtain ⟨hi_7, hp⟩ := hp
    refine r_aaldF hx hb hw (h0.2.2.1) rfl hi_7 (b := (a0 + 41 + ((0 : Int32)).toNatClampNeg)) (if_pos (vp_lt hi_7)) dX5_glueAt_9 ?_
    refine lv_goto (tgt := 30) hx hb dX5_glueAt_10 (by decide) ?_
    exact r_qret (r := (some (a0 + 41 + ((0 : Int32)).toNatClampNeg))) hx hb hr hlocks hw hp dX5_glueAt_30
set_option maxHeartbeats 4000000 in
set_option maxRecDepth 100000 in
theorem c_X2_over (l : Launch) (G : GX) {Sh : SH} {a0 : Nat} {p1 : Int32} (h0 : isNeeds G Sh a0) {I : MI} {L : ML} {K : Int32 → MI → ML → Prop} (hp : wp_X2_over G Sh a0 p1 I L K) : CtI l yX2_over (wM yX2_over cX2_over 2 (some .int)) (rmA 0 0) G Sh [.ref a0, .int p1] I L K := by
  refine ofA (own := RX2) (by decide) rfl (Nat.le_of_ble_eq_true rfl) ?_
  intro p e s m args below meth c ls C hw hl
  obtain ⟨hx, hb, hr, hml, hown, hts, hlocks⟩ := id C
  replace hl : lv_has ls 2 [(0, .ref a0), (1, .int p1)] := hl
  unfold wp_X2_over at hp
  refine lv_aload_n hx hb dX2_over_0 rfl (lv_at hl 0 rfl) ?_
  refine gf_X2_11 hx hb hts hown hw (h0.1) dX2_over_1 ?_
  refine lv_iload_n hx hb dX2_over_4 rfl (lv_at hl 1 rfl) ?_
  obtain ⟨hi_1, hp⟩ := hp
  refine r_aaldRF hx hb hw (h0.2.1) hi_1 (b := (a0 + 2 + (p1).toNatClampNeg)) (if_pos (vp_lt hi_1)) dX2_over_5 ?_
  refine lv_iconst (v := 1) hx hb dX2_over_6 (by decide) ?_
  obtain ⟨hi_2, hp⟩ := hp
  refine r_iald hx hb hw (h0.2.2 _ (vp_lt hi_1)) hi_2 dX2_over_7 ?_
  exact r_iret hx hb hr hlocks hw hp dX2_over_8
set_option maxHeartbeats 4000000 in
set_option maxRecDepth 100000 in
theorem c_X2_add (l : Launch) (G : GX) {Sh : SH} {a0 : Nat} {p1 : Int32} {p2 : Int32} {p3 : Int32} (h0 : isNeeds G Sh a0) {I : MI} {L : ML} {K : MI → ML → Prop} (hp : wp_X2_add G Sh a0 p1 p2 p3 I L K) : CtV l yX2_add (wM yX2_add cX2_add 4 none) (rmA 1 21) G Sh [.ref a0, .int p1, .int p2, .int p3] I L K := by
  refine ofA (own := RX2) (by decide) rfl (Nat.le_of_ble_eq_true rfl) ?_
  intro p e s m args below meth c ls C hw hl
  obtain ⟨hx, hb, hr, hml, hown, hts, hlocks⟩ := id C
  replace hl : lv_has ls 4 [(0, .ref a0), (1, .int p1), (2, .int p2), (3, .int p3)] := hl
  unfold wp_X2_add at hp
  refine lv_aload_n hx hb dX2_add_0 rfl (lv_at hl 0 rfl) ?_
  refine gf_X2_11 hx hb hts hown hw (h0.1) dX2_add_1 ?_
  refine lv_iload_n hx hb dX2_add_4 rfl (lv_at hl 1 rfl) ?_
  obtain ⟨hi_1, hp⟩ := hp
  refine r_aaldRF hx hb hw (h0.2.1) hi_1 (b := (a0 + 2 + (p1).toNatClampNeg)) (if_pos (vp_lt hi_1)) dX2_add_5 ?_
  refine lv_iload_n hx hb dX2_add_6 rfl (lv_at hl 2 rfl) ?_
  refine lv_aload_n hx hb dX2_add_7 rfl (lv_at hl 0 rfl) ?_
  refine gf_X2_11 hx hb hts hown hw (h0.1) dX2_add_8 ?_
  refine lv_iload_n hx hb dX2_add_11 rfl (lv_at hl 1 rfl) ?_
  obtain ⟨hi_2, hp⟩ := hp
  refine r_aaldRF hx hb hw (h0.2.1) hi_2 (b := (a0 + 2 + (p1).toNatClampNeg)) (if_pos (vp_lt hi_2)) dX2_add_12 ?_
  refine lv_iload_n hx hb dX2_add_13 rfl (lv_at hl 2 rfl) ?_
  obtain ⟨hi_3, hp⟩ := hp
  refine r_iald hx hb hw (h0.2.2 _ (vp_lt hi_2)) hi_3 dX2_add_14 ?_
  refine lv_iload_n hx hb dX2_add_15 rfl (lv_at hl 3 rfl) ?_
  refine va_mmax hx hb (by rw [hml]; exact hl.1.symm) hown (hts _ k_455) (hts _ k_449) (hts _ k_44) (hts _ k_450) (Nat.le_of_ble_eq_true rfl) (Nat.le_of_ble_eq_true rfl) (Nat.zero_le _) (Nat.zero_le _) dX2_add_16 ?_
  obtain ⟨hi_4, hp⟩ := hp
  refine r_iast hx hb hw (h0.2.2 _ (vp_lt hi_1)) hi_4 dX2_add_19 (fun I_5 H locs eI_5 hw => ?_)
  replace hp := hp I_5 eI_5
  exact r_vret hx hb hr hlocks hw hp dX2_add_20
set_option maxHeartbeats 4000000 in
set_option maxRecDepth 100000 in
theorem w_X2_moveOn_2 {p : Program} {l : Launch} {e : Env} {s : State} {m : MethodId} {args : Array Value} {below : List Frame} {meth : Method} {c : Code} (C : Cx p s m args meth c cX2_moveOn none 5 RX2) {G : GX} {Sh : SH} {a0 : Nat} {p1 : Int32} {p2 : Int32} {K : MI → ML → Prop} (h0 : isNeeds G Sh a0) : ∀ (n : Nat) (xl3 : Int32) (I : MI) (L : ML) (H : Heap) (locs : List Loc) (ls : Array Slot), wp_X2_moveOn_2 G Sh a0 p1 p2 K n xl3 I L → mW G Sh s I L H locs → lv_has ls 5 [(0, .ref a0), (1, .int p1), (2, .int p2), (3, .int xl3)] → W p l e (rmA 2 44) s m args below meth c H locs 0 0 (eV below G Sh K args s) (F0 m 2 ls []) := by
  obtain ⟨hx, hb, hr, hml, hown, hts, hlocks⟩ := id C
  intro n
  induction n with
  | zero => intro xl3 I L H locs ls hp hw hl; exact hp.elim
  | succ n hB2 =>
    intro xl3 I L H locs ls hp hw hl
    replace hp : wb_X2_moveOn_2 G Sh a0 p1 p2 K (wp_X2_moveOn_2 G Sh a0 p1 p2 K n) xl3 I L := hp
    unfold wb_X2_moveOn_2 at hp
    refine lv_iload_n hx hb dX2_moveOn_2 rfl (lv_at hl 3 rfl) ?_
    refine lv_bipush (v := 8) hx hb dX2_moveOn_3 (by decide) ?_
    refine lv_icmp_gt (tgt := 56) hx hb dX2_moveOn_5 (by decide) (fun hc_1 => ?_) (fun hc_1 => ?_)
    · replace hp := hp.1 hc_1
      exact r_vret hx hb hr hlocks hw hp dX2_moveOn_56
    · replace hp := hp.2 hc_1
      refine lv_aload_n hx hb dX2_moveOn_8 rfl (lv_at hl 0 rfl) ?_
      refine gf_X2_11 hx hb hts hown hw (h0.1) dX2_moveOn_9 ?_
      refine lv_iload_n hx hb dX2_moveOn_12 rfl (lv_at hl 1 rfl) ?_
      obtain ⟨hi_2, hp⟩ := hp
      refine r_aaldRF hx hb hw (h0.2.1) hi_2 (b := (a0 + 2 + (p1).toNatClampNeg)) (if_pos (vp_lt hi_2)) dX2_moveOn_13 ?_
      refine lv_iload_n hx hb dX2_moveOn_14 rfl (lv_at hl 3 rfl) ?_
      obtain ⟨hi_3, hp⟩ := hp
      refine r_iald hx hb hw (h0.2.2 _ (vp_lt hi_2)) hi_3 dX2_moveOn_15 ?_
      refine lv_topi (fun x_4 ex_4 => ?_)
      replace hp := hp x_4 ex_4
      refine lv_istore (lv' := [(4, .int x_4), (0, .ref a0), (1, .int p1), (2, .int p2), (3, .int xl3)]) hx hb dX2_moveOn_16 hl (by decide) rfl (fun ls hl => ?_)
      refine lv_iload hx hb dX2_moveOn_18 (lv_at hl 0 rfl) ?_
      refine lv_iconst (v := (-1)) hx hb dX2_moveOn_20 (by decide) ?_
      refine lv_icmp_eq (tgt := 50) hx hb dX2_moveOn_21 (by decide) (fun hc_5 => ?_) (fun hc_5 => ?_)
      · replace hp := hp.1 hc_5
        obtain ⟨x_6, ex_6⟩ : ∃ z : Int32, z = xl3 + (1 : Int32) := ⟨_, rfl⟩
        replace hp := hp x_6 ex_6
        refine lv_iinc (v := x_6) (lv' := [(3, .int x_6), (4, .int x_4), (0, .ref a0), (1, .int p1), (2, .int p2)]) hx hb dX2_moveOn_50 hl (k := 4) rfl (by rw [ex_6]; rfl) (by decide) rfl (fun ls hl => ?_)
        refine lv_goto (tgt := 2) hx hb dX2_moveOn_53 (by decide) ?_
        exact hB2 (x_6) _ _ _ _ _ hp hw (lv_sub hl [2, 3, 4, 0] rfl)
      · replace hp := hp.2 hc_5
        refine lv_iload_n hx hb dX2_moveOn_24 rfl (lv_at hl 2 rfl) ?_
        refine lv_iconst (v := 1) hx hb dX2_moveOn_25 (by decide) ?_
        refine lv_iadd hx hb dX2_moveOn_26 ?_
        refine lv_bipush (v := 24) hx hb dX2_moveOn_27 (by decide) ?_
        refine lv_icmp_ge (tgt := 50) hx hb dX2_moveOn_29 (by decide) (fun hc_7 => ?_) (fun hc_7 => ?_)
        · replace hp := hp.1 hc_7
          obtain ⟨x_8, ex_8⟩ : ∃ z : Int32, z = xl3 + (1 : Int32) := ⟨_, rfl⟩
          replace hp := hp x_8 ex_8
          refine lv_iinc (v := x_8) (lv' := [(3, .int x_8), (4, .int x_4), (0, .ref a0), (1, .int p1), (2, .int p2)]) hx hb dX2_moveOn_50 hl (k := 4) rfl (by rw [ex_8]; rfl) (by decide) rfl (fun ls hl => ?_)
          refine lv_goto (tgt := 2) hx hb dX2_moveOn_53 (by decide) ?_
          exact hB2 (x_8) _ _ _ _ _ hp hw (lv_sub hl [2, 3, 4, 0] rfl)
        · replace hp := hp.2 hc_7
          refine lv_aload_n hx hb dX2_moveOn_32 rfl (lv_at hl 1 rfl) ?_
          refine lv_iload_n hx hb dX2_moveOn_33 rfl (lv_at hl 2 rfl) ?_
          refine lv_iconst (v := 1) hx hb dX2_moveOn_34 (by decide) ?_
          refine lv_iadd hx hb dX2_moveOn_35 ?_
          refine lv_iload_n hx hb dX2_moveOn_36 rfl (lv_at hl 4 rfl) ?_
          refine lv_iconst (v := 1) hx hb dX2_moveOn_37 (by decide) ?_
          refine lv_isub hx hb dX2_moveOn_38 ?_
          refine lv_iconst (v := 0) hx hb dX2_moveOn_39 (by decide) ?_
          refine lv_iload hx hb dX2_moveOn_40 (lv_at hl 0 rfl) ?_
          refine lv_iload_n hx hb dX2_moveOn_42 rfl (lv_at hl 3 rfl) ?_
          refine lv_isub hx hb dX2_moveOn_43 ?_
          refine va_mmax hx hb (by rw [hml]; exact hl.1.symm) hown (hts _ k_455) (hts _ k_449) (hts _ k_44) (hts _ k_450) (Nat.le_of_ble_eq_true rfl) (Nat.le_of_ble_eq_true rfl) (Nat.zero_le _) (Nat.zero_le _) dX2_moveOn_44 ?_
          refine r_cvV (As := [.int (p1 + (1 : Int32)), .int (xl3 - (1 : Int32)), .int (if (0 : Int32) < (x_4 - p2) then (x_4 - p2) else (0 : Int32))]) ⟨hx, hb, hml, hown, hts⟩ (c_X2_add l G (h0) hp) (cw_X2_28 hts ⟨Nat.le_of_ble_eq_true rfl, Nat.le_of_ble_eq_true rfl⟩) hw (hw.recv (h0.1) rfl rfl) rfl rfl hl.1 (Nat.le_of_ble_eq_true rfl) ⟨Nat.zero_le _, Nat.zero_le _⟩ dX2_moveOn_47 (fun I_10 L_11 H locs hp hw => ?_)
          obtain ⟨x_12, ex_12⟩ : ∃ z : Int32, z = xl3 + (1 : Int32) := ⟨_, rfl⟩
          replace hp := hp x_12 ex_12
          refine lv_iinc (v := x_12) (lv' := [(3, .int x_12), (4, .int x_4), (0, .ref a0), (1, .int p1), (2, .int p2)]) hx hb dX2_moveOn_50 hl (k := 4) rfl (by rw [ex_12]; rfl) (by decide) rfl (fun ls hl => ?_)
          refine lv_goto (tgt := 2) hx hb dX2_moveOn_53 (by decide) ?_
          exact hB2 (x_12) _ _ _ _ _ hp hw (lv_sub hl [2, 3, 4, 0] rfl)
set_option maxHeartbeats 4000000 in
set_option maxRecDepth 100000 in
theorem c_X2_moveOn (l : Launch) (G : GX) {Sh : SH} {a0 : Nat} {p1 : Int32} {p2 : Int32} (h0 : isNeeds G Sh a0) {I : MI} {L : ML} {K : MI → ML → Prop} (hp : wp_X2_moveOn G Sh a0 p1 p2 I L K) : CtV l yX2_moveOn (wM yX2_moveOn cX2_moveOn 5 none) (rmA 2 44) G Sh [.ref a0, .int p1, .int p2] I L K := by
  refine ofA (own := RX2) (by decide) rfl (Nat.le_of_ble_eq_true rfl) ?_
  intro p e s m args below meth c ls C hw hl
  obtain ⟨hx, hb, hr, hml, hown, hts, hlocks⟩ := id C
  replace hl : lv_has ls 5 [(0, .ref a0), (1, .int p1), (2, .int p2)] := hl
  unfold wp_X2_moveOn at hp
  refine lv_iconst (v := 2) hx hb dX2_moveOn_0 (by decide) ?_
  refine lv_istore_n (lv' := [(3, .int (2 : Int32)), (0, .ref a0), (1, .int p1), (2, .int p2)]) hx hb dX2_moveOn_1 rfl hl (by decide) rfl (fun ls hl => ?_)
  obtain ⟨n, hp⟩ := hp
  exact w_X2_moveOn_2 C h0 n ((2 : Int32)) _ _ _ _ _ hp hw (lv_sub hl [1, 2, 3, 0] rfl)
set_option maxHeartbeats 4000000 in
set_option maxRecDepth 100000 in
theorem w_X1_findWidths_99 {p : Program} {l : Launch} {e : Env} {s : State} {m : MethodId} {args : Array Value} {below : List Frame} {meth : Method} {c : Code} (C : Cx p s m args meth c cX1_findWidths none 4 RX1) {G : GX} {Sh : SH} {a0 : Nat} {a1 : Nat} {B16 : Int32 → MI → ML → Prop} {K : MI → ML → Prop} (h0 : isLast G Sh a0) (h1 : isTable G Sh a1) (hB16 : ∀ (xl2 : Int32) (I : MI) (L : ML) (H : Heap) (locs : List Loc) (ls : Array Slot), B16 xl2 I L → mW G Sh s I L H locs → lv_has ls 4 [(0, .ref a0), (1, .ref a1), (2, .int xl2)] → W p l e (rmA 3 68) s m args below meth c H locs 0 0 (eV below G Sh K args s) (F0 m 16 ls [])) : ∀ (xl2 : Int32) (xs0 : Int32) (xs1 : Int32) (I : MI) (L : ML) (H : Heap) (locs : List Loc) (ls : Array Slot), wp_X1_findWidths_99 G Sh a0 a1 B16 K xl2 xs0 xs1 I L → mW G Sh s I L H locs → lv_has ls 4 [(0, .ref a0), (1, .ref a1), (2, .int xl2)] → W p l e (rmA 3 68) s m args below meth c H locs 0 0 (eV below G Sh K args s) (F0 m 99 ls [.int xs0, .int xs1, .ref (a0 + 4)]) := by
  obtain ⟨hx, hb, hr, hml, hown, hts, hlocks⟩ := id C
  intro xl2 xs0 xs1 I L H locs ls hp hw hl
  unfold wp_X1_findWidths_99 at hp
  obtain ⟨hi_24, hp⟩ := hp
  refine r_iast hx hb hw (h0.2.2.2.2.1) hi_24 dX1_findWidths_99 (fun I_25 H locs eI_25 hw => ?_)
  replace hp := hp I_25 eI_25
  refine lv_aload_n hx hb dX1_findWidths_100 rfl (lv_at hl 0 rfl) ?_
  refine gf_X1_35 hx hb hts hown hw (h0.1) dX1_findWidths_101 ?_
  refine lv_iload_n hx hb dX1_findWidths_104 rfl (lv_at hl 2 rfl) ?_
  refine lv_aload_n hx hb dX1_findWidths_105 rfl (lv_at hl 0 rfl) ?_
  refine gf_X1_9 hx hb hts hown hw (h0.1) dX1_findWidths_106 ?_
  refine lv_iload_n hx hb dX1_findWidths_109 rfl (lv_at hl 2 rfl) ?_
  obtain ⟨hi_26, hp⟩ := hp
  refine r_iald hx hb hw (h0.2.1) hi_26 dX1_findWidths_110 ?_
  refine lv_aload_n hx hb dX1_findWidths_111 rfl (lv_at hl 0 rfl) ?_
  refine gf_X1_23 hx hb hts hown hw (h0.1) dX1_findWidths_112 ?_
  refine lv_iload_n hx hb dX1_findWidths_115 rfl (lv_at hl 2 rfl) ?_
  refine lv_iconst (v := 1) hx hb dX1_findWidths_116 (by decide) ?_
  refine lv_iadd hx hb dX1_findWidths_117 ?_
  refine lv_topi (fun x_27 ex_27 => ?_)
  replace hp := hp x_27 ex_27
  obtain ⟨hi_28, hp⟩ := hp
  refine r_iald hx hb hw (h0.2.2.2.2.1) hi_28 dX1_findWidths_118 ?_
  refine lv_iadd hx hb dX1_findWidths_119 ?_
  refine r_cvV (As := [.int xl2, .int ((I_25 (a0 + 1) (xl2).toNatClampNeg) + (I_25 (a0 + 4) (x_27).toNatClampNeg))]) ⟨hx, hb, hml, hown, hts⟩ (c_X2_moveOn l G (h0.2.2.2.2.2.2.2) hp) (cw_X1_140 hts ⟨Nat.le_of_ble_eq_true rfl, Nat.le_of_ble_eq_true rfl⟩) hw (hw.recv (h0.2.2.2.2.2.2.2.1) rfl rfl) rfl rfl hl.1 (Nat.le_of_ble_eq_true rfl) ⟨Nat.zero_le _, Nat.zero_le _⟩ dX1_findWidths_120 (fun I_30 L_31 H locs hp hw => ?_)
  obtain ⟨x_32, ex_32⟩ : ∃ z : Int32, z = xl2 + (1 : Int32) := ⟨_, rfl⟩
  replace hp := hp x_32 ex_32
  refine lv_iinc (v := x_32) (lv' := [(2, .int x_32), (0, .ref a0), (1, .ref a1)]) hx hb dX1_findWidths_123 hl (k := 2) rfl (by rw [ex_32]; rfl) (by decide) rfl (fun ls hl => ?_)
  refine lv_goto (tgt := 16) hx hb dX1_findWidths_126 (by decide) ?_
  exact hB16 (x_32) _ _ _ _ _ hp hw (lv_sub hl [1, 2, 0] rfl)
set_option maxHeartbeats 4000000 in
set_option maxRecDepth 100000 in
theorem w_X1_findWidths_68 {p : Program} {l : Launch} {e : Env} {s : State} {m : MethodId} {args : Array Value} {below : List Frame} {meth : Method} {c : Code} (C : Cx p s m args meth c cX1_findWidths none 4 RX1) {G : GX} {Sh : SH} {a0 : Nat} {a1 : Nat} {B16 : Int32 → MI → ML → Prop} {K : MI → ML → Prop} (h0 : isLast G Sh a0) (h1 : isTable G Sh a1) (hB16 : ∀ (xl2 : Int32) (I : MI) (L : ML) (H : Heap) (locs : List Loc) (ls : Array Slot), B16 xl2 I L → mW G Sh s I L H locs → lv_has ls 4 [(0, .ref a0), (1, .ref a1), (2, .int xl2)] → W p l e (rmA 3 68) s m args below meth c H locs 0 0 (eV below G Sh K args s) (F0 m 16 ls [])) : ∀ (xl2 : Int32) (xs0 : Int32) (xs1 : Int32) (I : MI) (L : ML) (H : Heap) (locs : List Loc) (ls : Array Slot), wp_X1_findWidths_68 G Sh a0 a1 B16 K xl2 xs0 xs1 I L → mW G Sh s I L H locs → lv_has ls 4 [(0, .ref a0), (1, .ref a1), (2, .int xl2)] → W p l e (rmA 3 68) s m args below meth c H locs 0 0 (eV below G Sh K args s) (F0 m 68 ls [.int xs0, .int xs1, .ref (a0 + 1)]) := by
  obtain ⟨hx, hb, hr, hml, hown, hts, hlocks⟩ := id C
  intro xl2 xs0 xs1 I L H locs ls hp hw hl
  unfold wp_X1_findWidths_68 at hp
  obtain ⟨hi_16, hp⟩ := hp
  refine r_iast hx hb hw (h0.2.1) hi_16 dX1_findWidths_68 (fun I_17 H locs eI_17 hw => ?_)
  replace hp := hp I_17 eI_17
  refine lv_aload_n hx hb dX1_findWidths_69 rfl (lv_at hl 0 rfl) ?_
  refine gf_X1_23 hx hb hts hown hw (h0.1) dX1_findWidths_70 ?_
  refine lv_iload_n hx hb dX1_findWidths_73 rfl (lv_at hl 2 rfl) ?_
  refine lv_iconst (v := 1) hx hb dX1_findWidths_74 (by decide) ?_
  refine lv_iadd hx hb dX1_findWidths_75 ?_
  refine lv_aload_n hx hb dX1_findWidths_76 rfl (lv_at hl 0 rfl) ?_
  refine gf_X1_15 hx hb hts hown hw (h0.1) dX1_findWidths_77 ?_
  refine lv_iload_n hx hb dX1_findWidths_80 rfl (lv_at hl 2 rfl) ?_
  obtain ⟨hi_18, hp⟩ := hp
  refine r_zald hx hb hw (h0.2.2.1) hi_18 dX1_findWidths_81 ?_
  refine lv_if_eq (tgt := 89) hx hb dX1_findWidths_82 (by decide) (fun hc_19 => ?_) (fun hc_19 => ?_)
  · replace hp := hp.1 hc_19
    refine lv_aload_n hx hb dX1_findWidths_89 rfl (lv_at hl 1 rfl) ?_
    refine lv_iload_n hx hb dX1_findWidths_90 rfl (lv_at hl 2 rfl) ?_
    refine lv_iconst (v := 1) hx hb dX1_findWidths_91 (by decide) ?_
    refine lv_iadd hx hb dX1_findWidths_92 ?_
    refine r_cvQ (As := [.int (xl2 + (1 : Int32))]) ⟨hx, hb, hml, hown, hts⟩ (c_X5_glueAt l G (h1) hp) (cw_X1_127 hts ⟨Nat.le_of_ble_eq_true rfl, Nat.le_of_ble_eq_true rfl⟩) hw (hw.recv (h1.1) rfl rfl) rfl rfl hl.1 (Nat.le_of_ble_eq_true rfl) ⟨Nat.zero_le _, Nat.zero_le _⟩ dX1_findWidths_93 (fun r_20 I_21 L_22 H locs hp hw => ?_)
    obtain ⟨t_23, rfl, ht_23, hp⟩ := hp
    refine gf_X1_131 hx hb hts hown hw (ht_23) dX1_findWidths_96 ?_
    exact w_X1_findWidths_99 C h0 h1 hB16 (xl2) ((I_21 t_23 0)) ((xl2 + (1 : Int32))) _ _ _ _ _ hp hw (lv_sub hl [0, 1, 2] rfl)
  · replace hp := hp.2 hc_19
    refine lv_iconst (v := 0) hx hb dX1_findWidths_85 (by decide) ?_
    refine lv_goto (tgt := 99) hx hb dX1_findWidths_86 (by decide) ?_
    exact w_X1_findWidths_99 C h0 h1 hB16 (xl2) ((0 : Int32)) ((xl2 + (1 : Int32))) _ _ _ _ _ hp hw (lv_sub hl [0, 1, 2] rfl)
set_option maxHeartbeats 4000000 in
set_option maxRecDepth 100000 in
theorem w_X1_findWidths_48 {p : Program} {l : Launch} {e : Env} {s : State} {m : MethodId} {args : Array Value} {below : List Frame} {meth : Method} {c : Code} (C : Cx p s m args meth c cX1_findWidths none 4 RX1) {G : GX} {Sh : SH} {a0 : Nat} {a1 : Nat} {B16 : Int32 → MI → ML → Prop} {K : MI → ML → Prop} (h0 : isLast G Sh a0) (h1 : isTable G Sh a1) (hB16 : ∀ (xl2 : Int32) (I : MI) (L : ML) (H : Heap) (locs : List Loc) (ls : Array Slot), B16 xl2 I L → mW G Sh s I L H locs → lv_has ls 4 [(0, .ref a0), (1, .ref a1), (2, .int xl2)] → W p l e (rmA 3 68) s m args below meth c H locs 0 0 (eV below G Sh K args s) (F0 m 16 ls [])) : ∀ (xl2 : Int32) (xl3 : Int32) (xs0 : Int32) (xs1 : Int32) (I : MI) (L : ML) (H : Heap) (locs : List Loc) (ls : Array Slot), wp_X1_findWidths_48 G Sh a0 a1 B16 K xl2 xl3 xs0 xs1 I L → mW G Sh s I L H locs → lv_has ls 4 [(0, .ref a0), (1, .ref a1), (2, .int xl2), (3, .int xl3)] → W p l e (rmA 3 68) s m args below meth c H locs 0 0 (eV below G Sh K args s) (F0 m 48 ls [.int xs0, .int xs1, .ref (a0 + 2)]) := by
  obtain ⟨hx, hb, hr, hml, hown, hts, hlocks⟩ := id C
  intro xl2 xl3 xs0 xs1 I L H locs ls hp hw hl
  unfold wp_X1_findWidths_48 at hp
  obtain ⟨hi_12, hp⟩ := hp
  refine r_zast hx hb hw (h0.2.2.1) hi_12 rfl dX1_findWidths_48 (fun I_13 H locs eI_13 hw => ?_)
  replace hp := hp I_13 eI_13
  refine lv_aload_n hx hb dX1_findWidths_49 rfl (lv_at hl 0 rfl) ?_
  refine gf_X1_9 hx hb hts hown hw (h0.1) dX1_findWidths_50 ?_
  refine lv_iload_n hx hb dX1_findWidths_53 rfl (lv_at hl 2 rfl) ?_
  refine lv_aload_n hx hb dX1_findWidths_54 rfl (lv_at hl 0 rfl) ?_
  refine gf_X1_15 hx hb hts hown hw (h0.1) dX1_findWidths_55 ?_
  refine lv_iload_n hx hb dX1_findWidths_58 rfl (lv_at hl 2 rfl) ?_
  obtain ⟨hi_14, hp⟩ := hp
  refine r_zald hx hb hw (h0.2.2.1) hi_14 dX1_findWidths_59 ?_
  refine lv_if_eq (tgt := 67) hx hb dX1_findWidths_60 (by decide) (fun hc_15 => ?_) (fun hc_15 => ?_)
  · replace hp := hp.1 hc_15
    refine lv_iload_n hx hb dX1_findWidths_67 rfl (lv_at hl 3 rfl) ?_
    exact w_X1_findWidths_68 C h0 h1 hB16 (xl2) (xl3) (xl2) _ _ _ _ _ hp hw (lv_sub hl [0, 1, 2] rfl)
  · replace hp := hp.2 hc_15
    refine lv_iconst (v := 0) hx hb dX1_findWidths_63 (by decide) ?_
    refine lv_goto (tgt := 68) hx hb dX1_findWidths_64 (by decide) ?_
    exact w_X1_findWidths_68 C h0 h1 hB16 (xl2) ((0 : Int32)) (xl2) _ _ _ _ _ hp hw (lv_sub hl [0, 1, 2] rfl)
set_option maxHeartbeats 4000000 in
set_option maxRecDepth 100000 in
theorem w_X1_findWidths_16 {p : Program} {l : Launch} {e : Env} {s : State} {m : MethodId} {args : Array Value} {below : List Frame} {meth : Method} {c : Code} (C : Cx p s m args meth c cX1_findWidths none 4 RX1) {G : GX} {Sh : SH} {a0 : Nat} {a1 : Nat} {K : MI → ML → Prop} (h0 : isLast G Sh a0) (h1 : isTable G Sh a1) : ∀ (n : Nat) (xl2 : Int32) (I : MI) (L : ML) (H : Heap) (locs : List Loc) (ls : Array Slot), wp_X1_findWidths_16 G Sh a0 a1 K n xl2 I L → mW G Sh s I L H locs → lv_has ls 4 [(0, .ref a0), (1, .ref a1), (2, .int xl2)] → W p l e (rmA 3 68) s m args below meth c H locs 0 0 (eV below G Sh K args s) (F0 m 16 ls []) := by
  obtain ⟨hx, hb, hr, hml, hown, hts, hlocks⟩ := id C
  intro n
  induction n with
  | zero => intro xl2 I L H locs ls hp hw hl; exact hp.elim
  | succ n hB16 =>
    intro xl2 I L H locs ls hp hw hl
    replace hp : wb_X1_findWidths_16 G Sh a0 a1 K (wp_X1_findWidths_16 G Sh a0 a1 K n) xl2 I L := hp
    unfold wb_X1_findWidths_16 at hp
    refine lv_iload_n hx hb dX1_findWidths_16 rfl (lv_at hl 2 rfl) ?_
    refine lv_aload_n hx hb dX1_findWidths_17 rfl (lv_at hl 0 rfl) ?_
    refine gf_X1_43 hx hb hts hown hw (h0.1) dX1_findWidths_18 ?_
    refine lv_icmp_ge (tgt := 129) hx hb dX1_findWidths_21 (by decide) (fun hc_7 => ?_) (fun hc_7 => ?_)
    · replace hp := hp.1 hc_7
      exact r_vret hx hb hr hlocks hw hp dX1_findWidths_129
    · replace hp := hp.2 hc_7
      refine lv_aload_n hx hb dX1_findWidths_24 rfl (lv_at hl 0 rfl) ?_
      refine gf_X1_35 hx hb hts hown hw (h0.1) dX1_findWidths_25 ?_
      refine lv_iload_n hx hb dX1_findWidths_28 rfl (lv_at hl 2 rfl) ?_
      refine r_cvI (As := [.int xl2]) ⟨hx, hb, hml, hown, hts⟩ (c_X2_over l G (h0.2.2.2.2.2.2.2) hp) (cw_X1_136 hts ⟨Nat.le_of_ble_eq_true rfl, Nat.le_of_ble_eq_true rfl⟩) hw (hw.recv (h0.2.2.2.2.2.2.2.1) rfl rfl) rfl rfl hl.1 (Nat.le_of_ble_eq_true rfl) ⟨Nat.zero_le _, Nat.zero_le _⟩ dX1_findWidths_29 (fun r_8 I_9 L_10 H locs hp hw => ?_)
      refine lv_istore_n (lv' := [(3, .int r_8), (0, .ref a0), (1, .ref a1), (2, .int xl2)]) hx hb dX1_findWidths_32 rfl hl (by decide) rfl (fun ls hl => ?_)
      refine lv_aload_n hx hb dX1_findWidths_33 rfl (lv_at hl 1 rfl) ?_
      refine gf_X1_15 hx hb hts hown hw (h0.1) dX1_findWidths_34 ?_
      refine lv_iload_n hx hb dX1_findWidths_37 rfl (lv_at hl 3 rfl) ?_
      refine lv_iload_n hx hb dX1_findWidths_38 rfl (lv_at hl 0 rfl) ?_
      refine lv_iconst (v := (-1)) hx hb dX1_findWidths_39 (by decide) ?_
      refine lv_icmp_ne (tgt := 47) hx hb dX1_findWidths_40 (by decide) (fun hc_11 => ?_) (fun hc_11 => ?_)
      · replace hp := hp.2 hc_11
        refine lv_iconst (v := 0) hx hb dX1_findWidths_47 (by decide) ?_
        exact w_X1_findWidths_48 C h0 h1 hB16 (xl2) (r_8) ((0 : Int32)) (xl2) _ _ _ _ _ hp hw (lv_sub hl [1, 2, 3, 0] rfl)
      · replace hp := hp.1 hc_11
        refine lv_iconst (v := 1) hx hb dX1_findWidths_43 (by decide) ?_
        refine lv_goto (tgt := 48) hx hb dX1_findWidths_44 (by decide) ?_
        exact w_X1_findWidths_48 C h0 h1 hB16 (xl2) (r_8) ((1 : Int32)) (xl2) _ _ _ _ _ hp hw (lv_sub hl [1, 2, 3, 0] rfl)
set_option maxHeartbeats 4000000 in
set_option maxRecDepth 100000 in
theorem c_X1_findWidths (l : Launch) (G : GX) {Sh : SH} {a0 : Nat} {a1 : Nat} (h0 : isLast G Sh a0) (h1 : isTable G Sh a1) {I : MI} {L : ML} {K : MI → ML → Prop} (hp : wp_X1_findWidths G Sh a0 a1 I L K) : CtV l yX1_findWidths (wM yX1_findWidths cX1_findWidths 4 none) (rmA 3 68) G Sh [.ref a0, .ref a1] I L K := by
  refine ofA (own := RX1) (by decide) rfl (Nat.le_of_ble_eq_true rfl) ?_
  intro p e s m args below meth c ls C hw hl
  obtain ⟨hx, hb, hr, hml, hown, hts, hlocks⟩ := id C
  replace hl : lv_has ls 4 [(0, .ref a0), (1, .ref a1)] := hl
  unfold wp_X1_findWidths at hp
  refine lv_aload_n hx hb dX1_findWidths_0 rfl (lv_at hl 0 rfl) ?_
  refine gf_X1_23 hx hb hts hown hw (h0.1) dX1_findWidths_1 ?_
  refine lv_iconst (v := 0) hx hb dX1_findWidths_4 (by decide) ?_
  refine lv_aload_n hx hb dX1_findWidths_5 rfl (lv_at hl 1 rfl) ?_
  refine lv_iconst (v := 0) hx hb dX1_findWidths_6 (by decide) ?_
  refine r_cvQ (As := [.int (0 : Int32)]) ⟨hx, hb, hml, hown, hts⟩ (c_X5_glueAt l G (h1) hp) (cw_X1_127 hts ⟨Nat.le_of_ble_eq_true rfl, Nat.le_of_ble_eq_true rfl⟩) hw (hw.recv (h1.1) rfl rfl) rfl rfl hl.1 (Nat.le_of_ble_eq_true rfl) ⟨Nat.zero_le _, Nat.zero_le _⟩ dX1_findWidths_7 (fun r_1 I_2 L_3 H locs hp hw => ?_)
  obtain ⟨t_4, rfl, ht_4, hp⟩ := hp
  refine gf_X1_131 hx hb hts hown hw (ht_4) dX1_findWidths_10 ?_
  obtain ⟨hi_5, hp⟩ := hp
  refine r_iast hx hb hw (h0.2.2.2.2.1) hi_5 dX1_findWidths_13 (fun I_6 H locs eI_6 hw => ?_)
  replace hp := hp I_6 eI_6
  refine lv_iconst (v := 0) hx hb dX1_findWidths_14 (by decide) ?_
  refine lv_istore_n (lv' := [(2, .int (0 : Int32)), (0, .ref a0), (1, .ref a1)]) hx hb dX1_findWidths_15 rfl hl (by decide) rfl (fun ls hl => ?_)
  obtain ⟨n, hp⟩ := hp
  exact w_X1_findWidths_16 C h0 h1 n ((0 : Int32)) _ _ _ _ _ hp hw (lv_sub hl [1, 2, 0] rfl)
set_option maxHeartbeats 4000000 in
set_option maxRecDepth 100000 in
theorem w_X1_gatherGives_72 {p : Program} {l : Launch} {e : Env} {s : State} {m : MethodId} {args : Array Value} {below : List Frame} {meth : Method} {c : Code} (C : Cx p s m args meth c cX1_gatherGives none 5 RX1) {G : GX} {Sh : SH} {a0 : Nat} {a1 : Nat} {B2 : Int32 → MI → ML → Prop} {K : MI → ML → Prop} (h0 : isLast G Sh a0) (h1 : isTable G Sh a1) (hB2 : ∀ (xl2 : Int32) (I : MI) (L : ML) (H : Heap) (locs : List Loc) (ls : Array Slot), B2 xl2 I L → mW G Sh s I L H locs → lv_has ls 5 [(0, .ref a0), (1, .ref a1), (2, .int xl2)] → W p l e (rmA 2 43) s m args below meth c H locs 0 0 (eV below G Sh K args s) (F0 m 2 ls [])) : ∀ (xl2 : Int32) (wl3 : Nat) (xs0 : Int32) (xs1 : Int32) (hwl3 : Sh wl3 = some sGlue) (I : MI) (L : ML) (H : Heap) (locs : List Loc) (ls : Array Slot), wp_X1_gatherGives_72 G Sh a0 a1 B2 K xl2 wl3 xs0 xs1 I L → mW G Sh s I L H locs → lv_has ls 5 [(0, .ref a0), (1, .ref a1), (2, .int xl2), (3, .ref wl3)] → W p l e (rmA 2 43) s m args below meth c H locs 0 0 (eV below G Sh K args s) (F0 m 72 ls [.int xs0, .int xs1, .ref (a0 + 5)]) := by
  obtain ⟨hx, hb, hr, hml, hown, hts, hlocks⟩ := id C
  intro xl2 wl3 xs0 xs1 hwl3 I L H locs ls hp hw hl
  unfold wp_X1_gatherGives_72 at hp
  obtain ⟨hi_12, hp⟩ := hp
  refine r_iast hx hb hw (h0.2.2.2.2.2.1) hi_12 dX1_gatherGives_72 (fun I_13 H locs eI_13 hw => ?_)
  replace hp := hp I_13 eI_13
  refine lv_aload_n hx hb dX1_gatherGives_73 rfl (lv_at hl 0 rfl) ?_
  refine gf_X1_29 hx hb hts hown hw (h0.1) dX1_gatherGives_74 ?_
  refine lv_iload_n hx hb dX1_gatherGives_77 rfl (lv_at hl 2 rfl) ?_
  refine lv_aload_n hx hb dX1_gatherGives_78 rfl (lv_at hl 0 rfl) ?_
  refine gf_X1_50 hx hb hts hown hw (h0.1) dX1_gatherGives_79 ?_
  refine lv_lconst (v := 0) hx hb dX1_gatherGives_82 (by decide) ?_
  refine W.lcmp hx hb dX1_gatherGives_83 ?_
  refine lv_if_le (tgt := 94) hx hb dX1_gatherGives_84 (by decide) (fun hc_14 => ?_) (fun hc_14 => ?_)
  · replace hp := hp.1 hc_14
    refine lv_aload_n hx hb dX1_gatherGives_94 rfl (lv_at hl 3 rfl) ?_
    refine gf_X1_153 hx hb hts hown hw (hwl3) dX1_gatherGives_95 ?_
    obtain ⟨hi_15, hp⟩ := hp
    refine r_iast hx hb hw (h0.2.2.2.2.2.2.1) hi_15 dX1_gatherGives_98 (fun I_16 H locs eI_16 hw => ?_)
    replace hp := hp I_16 eI_16
    obtain ⟨x_17, ex_17⟩ : ∃ z : Int32, z = xl2 + (1 : Int32) := ⟨_, rfl⟩
    replace hp := hp x_17 ex_17
    refine lv_iinc (v := x_17) (lv' := [(2, .int x_17), (0, .ref a0), (1, .ref a1), (3, .ref wl3)]) hx hb dX1_gatherGives_99 hl (k := 2) rfl (by rw [ex_17]; rfl) (by decide) rfl (fun ls hl => ?_)
    refine lv_goto (tgt := 2) hx hb dX1_gatherGives_102 (by decide) ?_
    exact hB2 (x_17) _ _ _ _ _ hp hw (lv_sub hl [1, 2, 0] rfl)
  · replace hp := hp.2 hc_14
    refine lv_aload_n hx hb dX1_gatherGives_87 rfl (lv_at hl 3 rfl) ?_
    refine gf_X1_150 hx hb hts hown hw (hwl3) dX1_gatherGives_88 ?_
    refine lv_goto (tgt := 98) hx hb dX1_gatherGives_91 (by decide) ?_
    obtain ⟨hi_18, hp⟩ := hp
    refine r_iast hx hb hw (h0.2.2.2.2.2.2.1) hi_18 dX1_gatherGives_98 (fun I_19 H locs eI_19 hw => ?_)
    replace hp := hp I_19 eI_19
    obtain ⟨x_20, ex_20⟩ : ∃ z : Int32, z = xl2 + (1 : Int32) := ⟨_, rfl⟩
    replace hp := hp x_20 ex_20
    refine lv_iinc (v := x_20) (lv' := [(2, .int x_20), (0, .ref a0), (1, .ref a1), (3, .ref wl3)]) hx hb dX1_gatherGives_99 hl (k := 2) rfl (by rw [ex_20]; rfl) (by decide) rfl (fun ls hl => ?_)
    refine lv_goto (tgt := 2) hx hb dX1_gatherGives_102 (by decide) ?_
    exact hB2 (x_20) _ _ _ _ _ hp hw (lv_sub hl [1, 2, 0] rfl)
set_option maxHeartbeats 4000000 in
set_option maxRecDepth 100000 in
theorem w_X1_gatherGives_36 {p : Program} {l : Launch} {e : Env} {s : State} {m : MethodId} {args : Array Value} {below : List Frame} {meth : Method} {c : Code} (C : Cx p s m args meth c cX1_gatherGives none 5 RX1) {G : GX} {Sh : SH} {a0 : Nat} {a1 : Nat} {B2 : Int32 → MI → ML → Prop} {K : MI → ML → Prop} (h0 : isLast G Sh a0) (h1 : isTable G Sh a1) (hB2 : ∀ (xl2 : Int32) (I : MI) (L : ML) (H : Heap) (locs : List Loc) (ls : Array Slot), B2 xl2 I L → mW G Sh s I L H locs → lv_has ls 5 [(0, .ref a0), (1, .ref a1), (2, .int xl2)] → W p l e (rmA 2 43) s m args below meth c H locs 0 0 (eV below G Sh K args s) (F0 m 2 ls [])) : ∀ (xl2 : Int32) (wl3 : Nat) (xs0 : Int32) (hwl3 : Sh wl3 = some sGlue) (I : MI) (L : ML) (H : Heap) (locs : List Loc) (ls : Array Slot), wp_X1_gatherGives_36 G Sh a0 a1 B2 K xl2 wl3 xs0 I L → mW G Sh s I L H locs → lv_has ls 5 [(0, .ref a0), (1, .ref a1), (2, .int xl2), (3, .ref wl3)] → W p l e (rmA 2 43) s m args below meth c H locs 0 0 (eV below G Sh K args s) (F0 m 36 ls [.int xs0]) := by
  obtain ⟨hx, hb, hr, hml, hown, hts, hlocks⟩ := id C
  intro xl2 wl3 xs0 hwl3 I L H locs ls hp hw hl
  unfold wp_X1_gatherGives_36 at hp
  refine lv_istore (lv' := [(4, .int xs0), (0, .ref a0), (1, .ref a1), (2, .int xl2), (3, .ref wl3)]) hx hb dX1_gatherGives_36 hl (by decide) rfl (fun ls hl => ?_)
  refine lv_aload_n hx hb dX1_gatherGives_38 rfl (lv_at hl 1 rfl) ?_
  refine gf_X1_26 hx hb hts hown hw (h0.1) dX1_gatherGives_39 ?_
  refine lv_iload_n hx hb dX1_gatherGives_42 rfl (lv_at hl 3 rfl) ?_
  refine lv_iload hx hb dX1_gatherGives_43 (lv_at hl 0 rfl) ?_
  refine lv_if_eq (tgt := 52) hx hb dX1_gatherGives_45 (by decide) (fun hc_10 => ?_) (fun hc_10 => ?_)
  · replace hp := hp.1 hc_10
    refine lv_aload_n hx hb dX1_gatherGives_52 rfl (lv_at hl 1 rfl) ?_
    refine gf_X1_50 hx hb hts hown hw (h0.1) dX1_gatherGives_53 ?_
    refine lv_lconst (v := 0) hx hb dX1_gatherGives_56 (by decide) ?_
    refine W.lcmp hx hb dX1_gatherGives_57 ?_
    refine lv_if_le (tgt := 68) hx hb dX1_gatherGives_58 (by decide) (fun hc_11 => ?_) (fun hc_11 => ?_)
    · replace hp := hp.1 hc_11
      refine lv_aload_n hx hb dX1_gatherGives_68 rfl (lv_at hl 4 rfl) ?_
      refine gf_X1_147 hx hb hts hown hw (hwl3) dX1_gatherGives_69 ?_
      exact w_X1_gatherGives_72 C h0 h1 hB2 (xl2) (wl3) ((I wl3 3)) (xl2) (hwl3) _ _ _ _ _ hp hw (lv_sub hl [1, 2, 3, 4] rfl)
    · replace hp := hp.2 hc_11
      refine lv_aload_n hx hb dX1_gatherGives_61 rfl (lv_at hl 4 rfl) ?_
      refine gf_X1_144 hx hb hts hown hw (hwl3) dX1_gatherGives_62 ?_
      refine lv_goto (tgt := 72) hx hb dX1_gatherGives_65 (by decide) ?_
      exact w_X1_gatherGives_72 C h0 h1 hB2 (xl2) (wl3) ((I wl3 1)) (xl2) (hwl3) _ _ _ _ _ hp hw (lv_sub hl [1, 2, 3, 4] rfl)
  · replace hp := hp.2 hc_10
    refine lv_iconst (v := 0) hx hb dX1_gatherGives_48 (by decide) ?_
    refine lv_goto (tgt := 72) hx hb dX1_gatherGives_49 (by decide) ?_
    exact w_X1_gatherGives_72 C h0 h1 hB2 (xl2) (wl3) ((0 : Int32)) (xl2) (hwl3) _ _ _ _ _ hp hw (lv_sub hl [1, 2, 3, 4] rfl)
set_option maxHeartbeats 4000000 in
set_option maxRecDepth 100000 in
theorem w_X1_gatherGives_35 {p : Program} {l : Launch} {e : Env} {s : State} {m : MethodId} {args : Array Value} {below : List Frame} {meth : Method} {c : Code} (C : Cx p s m args meth c cX1_gatherGives none 5 RX1) {G : GX} {Sh : SH} {a0 : Nat} {a1 : Nat} {B2 : Int32 → MI → ML → Prop} {K : MI → ML → Prop} (h0 : isLast G Sh a0) (h1 : isTable G Sh a1) (hB2 : ∀ (xl2 : Int32) (I : MI) (L : ML) (H : Heap) (locs : List Loc) (ls : Array Slot), B2 xl2 I L → mW G Sh s I L H locs → lv_has ls 5 [(0, .ref a0), (1, .ref a1), (2, .int xl2)] → W p l e (rmA 2 43) s m args below meth c H locs 0 0 (eV below G Sh K args s) (F0 m 2 ls [])) : ∀ (xl2 : Int32) (wl3 : Nat) (hwl3 : Sh wl3 = some sGlue) (I : MI) (L : ML) (H : Heap) (locs : List Loc) (ls : Array Slot), wp_X1_gatherGives_35 G Sh a0 a1 B2 K xl2 wl3 I L → mW G Sh s I L H locs → lv_has ls 5 [(0, .ref a0), (1, .ref a1), (2, .int xl2), (3, .ref wl3)] → W p l e (rmA 2 43) s m args below meth c H locs 0 0 (eV below G Sh K args s) (F0 m 35 ls []) := by
  obtain ⟨hx, hb, hr, hml, hown, hts, hlocks⟩ := id C
  intro xl2 wl3 hwl3 I L H locs ls hp hw hl
  unfold wp_X1_gatherGives_35 at hp
  refine lv_iconst (v := 0) hx hb dX1_gatherGives_35 (by decide) ?_
  exact w_X1_gatherGives_36 C h0 h1 hB2 (xl2) (wl3) ((0 : Int32)) (hwl3) _ _ _ _ _ hp hw (lv_sub hl [0, 1, 2, 3] rfl)
set_option maxHeartbeats 4000000 in
set_option maxRecDepth 100000 in
theorem w_X1_gatherGives_2 {p : Program} {l : Launch} {e : Env} {s : State} {m : MethodId} {args : Array Value} {below : List Frame} {meth : Method} {c : Code} (C : Cx p s m args meth c cX1_gatherGives none 5 RX1) {G : GX} {Sh : SH} {a0 : Nat} {a1 : Nat} {K : MI → ML → Prop} (h0 : isLast G Sh a0) (h1 : isTable G Sh a1) : ∀ (n : Nat) (xl2 : Int32) (I : MI) (L : ML) (H : Heap) (locs : List Loc) (ls : Array Slot), wp_X1_gatherGives_2 G Sh a0 a1 K n xl2 I L → mW G Sh s I L H locs → lv_has ls 5 [(0, .ref a0), (1, .ref a1), (2, .int xl2)] → W p l e (rmA 2 43) s m args below meth c H locs 0 0 (eV below G Sh K args s) (F0 m 2 ls []) := by
  obtain ⟨hx, hb, hr, hml, hown, hts, hlocks⟩ := id C
  intro n
  induction n with
  | zero => intro xl2 I L H locs ls hp hw hl; exact hp.elim
  | succ n hB2 =>
    intro xl2 I L H locs ls hp hw hl
    replace hp : wb_X1_gatherGives_2 G Sh a0 a1 K (wp_X1_gatherGives_2 G Sh a0 a1 K n) xl2 I L := hp
    unfold wb_X1_gatherGives_2 at hp
    refine lv_iload_n hx hb dX1_gatherGives_2 rfl (lv_at hl 2 rfl) ?_
    refine lv_aload_n hx hb dX1_gatherGives_3 rfl (lv_at hl 0 rfl) ?_
    refine gf_X1_43 hx hb hts hown hw (h0.1) dX1_gatherGives_4 ?_
    refine lv_icmp_gt (tgt := 105) hx hb dX1_gatherGives_7 (by decide) (fun hc_1 => ?_) (fun hc_1 => ?_)
    · replace hp := hp.1 hc_1
      exact r_vret hx hb hr hlocks hw hp dX1_gatherGives_105
    · replace hp := hp.2 hc_1
      refine lv_aload_n hx hb dX1_gatherGives_10 rfl (lv_at hl 1 rfl) ?_
      refine lv_iload_n hx hb dX1_gatherGives_11 rfl (lv_at hl 2 rfl) ?_
      refine r_cvQ (As := [.int xl2]) ⟨hx, hb, hml, hown, hts⟩ (c_X5_glueAt l G (h1) hp) (cw_X1_127 hts ⟨Nat.le_of_ble_eq_true rfl, Nat.le_of_ble_eq_true rfl⟩) hw (hw.recv (h1.1) rfl rfl) rfl rfl hl.1 (Nat.le_of_ble_eq_true rfl) ⟨Nat.zero_le _, Nat.zero_le _⟩ dX1_gatherGives_12 (fun r_2 I_3 L_4 H locs hp hw => ?_)
      obtain ⟨t_5, rfl, ht_5, hp⟩ := hp
      refine lv_astore_n (lv' := [(3, .ref t_5), (0, .ref a0), (1, .ref a1), (2, .int xl2)]) hx hb dX1_gatherGives_15 rfl hl (by decide) rfl (fun ls hl => ?_)
      refine lv_iload_n hx hb dX1_gatherGives_16 rfl (lv_at hl 3 rfl) ?_
      refine lv_if_le (tgt := 35) hx hb dX1_gatherGives_17 (by decide) (fun hc_6 => ?_) (fun hc_6 => ?_)
      · replace hp := hp.1 hc_6
        exact w_X1_gatherGives_35 C h0 h1 hB2 (xl2) (t_5) (ht_5) _ _ _ _ _ hp hw (lv_sub hl [1, 2, 3, 0] rfl)
      · replace hp := hp.2 hc_6
        refine lv_aload_n hx hb dX1_gatherGives_20 rfl (lv_at hl 1 rfl) ?_
        refine gf_X1_15 hx hb hts hown hw (h0.1) dX1_gatherGives_21 ?_
        refine lv_iload_n hx hb dX1_gatherGives_24 rfl (lv_at hl 3 rfl) ?_
        refine lv_iconst (v := 1) hx hb dX1_gatherGives_25 (by decide) ?_
        refine lv_isub hx hb dX1_gatherGives_26 ?_
        refine lv_topi (fun x_7 ex_7 => ?_)
        replace hp := hp x_7 ex_7
        obtain ⟨hi_8, hp⟩ := hp
        refine r_zald hx hb hw (h0.2.2.1) hi_8 dX1_gatherGives_27 ?_
        refine lv_if_eq (tgt := 35) hx hb dX1_gatherGives_28 (by decide) (fun hc_9 => ?_) (fun hc_9 => ?_)
        · replace hp := hp.1 hc_9
          exact w_X1_gatherGives_35 C h0 h1 hB2 (xl2) (t_5) (ht_5) _ _ _ _ _ hp hw (lv_sub hl [1, 2, 3, 0] rfl)
        · replace hp := hp.2 hc_9
          refine lv_iconst (v := 1) hx hb dX1_gatherGives_31 (by decide) ?_
          refine lv_goto (tgt := 36) hx hb dX1_gatherGives_32 (by decide) ?_
          exact w_X1_gatherGives_36 C h0 h1 hB2 (xl2) (t_5) ((1 : Int32)) (ht_5) _ _ _ _ _ hp hw (lv_sub hl [1, 2, 3, 0] rfl)
set_option maxHeartbeats 4000000 in
set_option maxRecDepth 100000 in
theorem c_X1_gatherGives (l : Launch) (G : GX) {Sh : SH} {a0 : Nat} {a1 : Nat} (h0 : isLast G Sh a0) (h1 : isTable G Sh a1) {I : MI} {L : ML} {K : MI → ML → Prop} (hp : wp_X1_gatherGives G Sh a0 a1 I L K) : CtV l yX1_gatherGives (wM yX1_gatherGives cX1_gatherGives 5 none) (rmA 2 43) G Sh [.ref a0, .ref a1] I L K := by
  refine ofA (own := RX1) (by decide) rfl (Nat.le_of_ble_eq_true rfl) ?_
  intro p e s m args below meth c ls C hw hl
  obtain ⟨hx, hb, hr, hml, hown, hts, hlocks⟩ := id C
  replace hl : lv_has ls 5 [(0, .ref a0), (1, .ref a1)] := hl
  unfold wp_X1_gatherGives at hp
  refine lv_iconst (v := 0) hx hb dX1_gatherGives_0 (by decide) ?_
  refine lv_istore_n (lv' := [(2, .int (0 : Int32)), (0, .ref a0), (1, .ref a1)]) hx hb dX1_gatherGives_1 rfl hl (by decide) rfl (fun ls hl => ?_)
  obtain ⟨n, hp⟩ := hp
  exact w_X1_gatherGives_2 C h0 h1 n ((0 : Int32)) _ _ _ _ _ hp hw (lv_sub hl [1, 2, 0] rfl)
