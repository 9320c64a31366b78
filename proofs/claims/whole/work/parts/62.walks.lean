set_option maxHeartbeats 4000000 in
set_option maxRecDepth 100000 in
theorem c_X3_append (l : Launch) (G : GX) {Sh : SH} {a0 : Nat} {p1 : Int32} {p2 : Int32} {p3 : Int32} (h0 : isPre G Sh a0) {I : MI} {L : ML} {K : Int32 → MI → ML → Prop} (hp : wp_X3_append G Sh a0 p1 p2 p3 I L K) : CtI l yX3_append (wM yX3_append cX3_append 4 (some .int)) (rmA 2 44) G Sh [.ref a0, .int p1, .int p2, .int p3] I L K := by
  refine ofA (own := RX3) (by decide) rfl (Nat.le_of_ble_eq_true rfl) ?_
  intro p e s m args below meth c ls C hw hl
  obtain ⟨hx, hb, hr, hml, hown, hts, hlocks⟩ := id C
  replace hl : lv_has ls 4 [(0, .ref a0), (1, .int p1), (2, .int p2), (3, .int p3)] := hl
  unfold wp_X3_append at hp
  refine lv_iload_n hx hb dX3_append_0 rfl (lv_at hl 1 rfl) ?_
  refine r_csI (As := [.int p1]) ⟨hx, hb, hml, hown, hts⟩ (c_X3_hasOnlySigns l G  hp) (cw_X3_39 hts ⟨Nat.le_of_ble_eq_true rfl, Nat.le_of_ble_eq_true rfl⟩) hw rfl rfl hl.1 (Nat.le_of_ble_eq_true rfl) ⟨Nat.zero_le _, Nat.zero_le _⟩ dX3_append_1 (fun r_1 I_2 L_3 H locs hp hw => ?_)
  refine lv_if_eq (tgt := 21) hx hb dX3_append_4 (by decide) (fun hc_4 => ?_) (fun hc_4 => ?_)
  · replace hp := hp.1 hc_4
    refine lv_bipush (v := (-2)) hx hb dX3_append_21 (by decide) ?_
    exact r_iret hx hb hr hlocks hw hp dX3_append_23
  · replace hp := hp.2 hc_4
    refine lv_iload_n hx hb dX3_append_7 rfl (lv_at hl 2 rfl) ?_
    refine r_csI (As := [.int p2]) ⟨hx, hb, hml, hown, hts⟩ (c_X3_hasOnlySigns l G  hp) (cw_X3_39 hts ⟨Nat.le_of_ble_eq_true rfl, Nat.le_of_ble_eq_true rfl⟩) hw rfl rfl hl.1 (Nat.le_of_ble_eq_true rfl) ⟨Nat.zero_le _, Nat.zero_le _⟩ dX3_append_8 (fun r_5 I_6 L_7 H locs hp hw => ?_)
    refine lv_if_eq (tgt := 21) hx hb dX3_append_11 (by decide) (fun hc_8 => ?_) (fun hc_8 => ?_)
    · replace hp := hp.1 hc_8
      refine lv_bipush (v := (-2)) hx hb dX3_append_21 (by decide) ?_
      exact r_iret hx hb hr hlocks hw hp dX3_append_23
    · replace hp := hp.2 hc_8
      refine lv_iload_n hx hb dX3_append_14 rfl (lv_at hl 3 rfl) ?_
      refine r_csI (As := [.int p3]) ⟨hx, hb, hml, hown, hts⟩ (c_X3_hasOnlySigns l G  hp) (cw_X3_39 hts ⟨Nat.le_of_ble_eq_true rfl, Nat.le_of_ble_eq_true rfl⟩) hw rfl rfl hl.1 (Nat.le_of_ble_eq_true rfl) ⟨Nat.zero_le _, Nat.zero_le _⟩ dX3_append_15 (fun r_9 I_10 L_11 H locs hp hw => ?_)
      refine lv_if_ne (tgt := 24) hx hb dX3_append_18 (by decide) (fun hc_12 => ?_) (fun hc_12 => ?_)
      · replace hp := hp.2 hc_12
        refine lv_aload_n hx hb dX3_append_24 rfl (lv_at hl 0 rfl) ?_
        refine gf_X3_26 hx hb hts hown hw (h0.1) dX3_append_25 ?_
        refine lv_if_eq (tgt := 34) hx hb dX3_append_28 (by decide) (fun hc_13 => ?_) (fun hc_13 => ?_)
        · replace hp := hp.1 hc_13
          refine lv_aload_n hx hb dX3_append_34 rfl (lv_at hl 0 rfl) ?_
          refine gf_X3_22 hx hb hts hown hw (h0.1) dX3_append_35 ?_
          refine lv_iload_n hx hb dX3_append_38 rfl (lv_at hl 1 rfl) ?_
          refine r_csI (As := [.int p1]) ⟨hx, hb, hml, hown, hts⟩ (c_X3_signsOf l G  hp) (cw_X3_43 hts ⟨Nat.le_of_ble_eq_true rfl, Nat.le_of_ble_eq_true rfl⟩) hw rfl rfl hl.1 (Nat.le_of_ble_eq_true rfl) ⟨Nat.zero_le _, Nat.zero_le _⟩ dX3_append_39 (fun r_14 I_15 L_16 H locs hp hw => ?_)
          refine lv_iadd hx hb dX3_append_42 ?_
          refine lv_iload_n hx hb dX3_append_43 rfl (lv_at hl 2 rfl) ?_
          refine r_csI (As := [.int p2]) ⟨hx, hb, hml, hown, hts⟩ (c_X3_signsOf l G  hp) (cw_X3_43 hts ⟨Nat.le_of_ble_eq_true rfl, Nat.le_of_ble_eq_true rfl⟩) hw rfl rfl hl.1 (Nat.le_of_ble_eq_true rfl) ⟨Nat.zero_le _, Nat.zero_le _⟩ dX3_append_44 (fun r_17 I_18 L_19 H locs hp hw => ?_)
          refine lv_iadd hx hb dX3_append_47 ?_
          refine lv_iload_n hx hb dX3_append_48 rfl (lv_at hl 3 rfl) ?_
          refine r_csI (As := [.int p3]) ⟨hx, hb, hml, hown, hts⟩ (c_X3_signsOf l G  hp) (cw_X3_43 hts ⟨Nat.le_of_ble_eq_true rfl, Nat.le_of_ble_eq_true rfl⟩) hw rfl rfl hl.1 (Nat.le_of_ble_eq_true rfl) ⟨Nat.zero_le _, Nat.zero_le _⟩ dX3_append_49 (fun r_20 I_21 L_22 H locs hp hw => ?_)
          refine lv_iadd hx hb dX3_append_52 ?_
          refine lv_bipush (v := 40) hx hb dX3_append_53 (by decide) ?_
          refine lv_icmp_le (tgt := 61) hx hb dX3_append_55 (by decide) (fun hc_23 => ?_) (fun hc_23 => ?_)
          · replace hp := hp.1 hc_23
            refine lv_aload_n hx hb dX3_append_61 rfl (lv_at hl 0 rfl) ?_
            refine lv_iload_n hx hb dX3_append_62 rfl (lv_at hl 1 rfl) ?_
            refine r_cvV (As := [.int p1]) ⟨hx, hb, hml, hown, hts⟩ (c_X3_putSigns l G (h0) hp) (cw_X3_47 hts ⟨Nat.le_of_ble_eq_true rfl, Nat.le_of_ble_eq_true rfl⟩) hw (hw.recv (h0.1) rfl rfl) rfl rfl hl.1 (Nat.le_of_ble_eq_true rfl) ⟨Nat.zero_le _, Nat.zero_le _⟩ dX3_append_63 (fun I_25 L_26 H locs hp hw => ?_)
            refine lv_aload_n hx hb dX3_append_66 rfl (lv_at hl 0 rfl) ?_
            refine lv_iload_n hx hb dX3_append_67 rfl (lv_at hl 2 rfl) ?_
            refine r_cvV (As := [.int p2]) ⟨hx, hb, hml, hown, hts⟩ (c_X3_putSigns l G (h0) hp) (cw_X3_47 hts ⟨Nat.le_of_ble_eq_true rfl, Nat.le_of_ble_eq_true rfl⟩) hw (hw.recv (h0.1) rfl rfl) rfl rfl hl.1 (Nat.le_of_ble_eq_true rfl) ⟨Nat.zero_le _, Nat.zero_le _⟩ dX3_append_68 (fun I_28 L_29 H locs hp hw => ?_)
            refine lv_aload_n hx hb dX3_append_71 rfl (lv_at hl 0 rfl) ?_
            refine lv_iload_n hx hb dX3_append_72 rfl (lv_at hl 3 rfl) ?_
            refine r_cvV (As := [.int p3]) ⟨hx, hb, hml, hown, hts⟩ (c_X3_putSigns l G (h0) hp) (cw_X3_47 hts ⟨Nat.le_of_ble_eq_true rfl, Nat.le_of_ble_eq_true rfl⟩) hw (hw.recv (h0.1) rfl rfl) rfl rfl hl.1 (Nat.le_of_ble_eq_true rfl) ⟨Nat.zero_le _, Nat.zero_le _⟩ dX3_append_73 (fun I_31 L_32 H locs hp hw => ?_)
            refine lv_aload_n hx hb dX3_append_76 rfl (lv_at hl 0 rfl) ?_
            refine gf_X3_22 hx hb hts hown hw (h0.1) dX3_append_77 ?_
            exact r_iret hx hb hr hlocks hw hp dX3_append_80
          · replace hp := hp.2 hc_23
            refine lv_bipush (v := (-4)) hx hb dX3_append_58 (by decide) ?_
            exact r_iret hx hb hr hlocks hw hp dX3_append_60
        · replace hp := hp.2 hc_13
          refine lv_bipush (v := (-3)) hx hb dX3_append_31 (by decide) ?_
          exact r_iret hx hb hr hlocks hw hp dX3_append_33
      · replace hp := hp.1 hc_12
        refine lv_bipush (v := (-2)) hx hb dX3_append_21 (by decide) ?_
        exact r_iret hx hb hr hlocks hw hp dX3_append_23
set_option maxHeartbeats 4000000 in
set_option maxRecDepth 100000 in
theorem w_X3_beginRepeat_27 {p : Program} {l : Launch} {e : Env} {s : State} {m : MethodId} {args : Array Value} {below : List Frame} {meth : Method} {c : Code} (C : Cx p s m args meth c cX3_beginRepeat (some .boolean) 2 RX3) {G : GX} {Sh : SH} {a0 : Nat} {p1 : Int32} {K : Int32 → MI → ML → Prop} (h0 : isPre G Sh a0) : ∀  (I : MI) (L : ML) (H : Heap) (locs : List Loc) (ls : Array Slot), wp_X3_beginRepeat_27 G Sh a0 p1 K  I L → mW G Sh s I L H locs → lv_has ls 2 [(0, .ref a0)] → W p l e (rmA 0 0) s m args below meth c H locs 0 0 (eI below G Sh K args s) (F0 m 27 ls []) := by
  obtain ⟨hx, hb, hr, hml, hown, hts, hlocks⟩ := id C
  intro I L H locs ls hp hw hl
  unfold wp_X3_beginRepeat_27 at hp
  refine lv_aload_n hx hb dX3_beginRepeat_27 rfl (lv_at hl 0 rfl) ?_
  refine lv_aload_n hx hb dX3_beginRepeat_28 rfl (lv_at hl 0 rfl) ?_
  refine gf_X3_30 hx hb hts hown hw (h0.1) dX3_beginRepeat_29 ?_
  refine lv_iconst (v := 1) hx hb dX3_beginRepeat_32 (by decide) ?_
  refine lv_isub hx hb dX3_beginRepeat_33 ?_
  refine pf_X3_33 hx hb hts hown hw (h0.1) dX3_beginRepeat_34 (fun I_6 H locs eI_6 hw => ?_)
  replace hp := hp I_6 eI_6
  refine lv_iconst (v := 1) hx hb dX3_beginRepeat_37 (by decide) ?_
  exact r_zret hx hb hr hlocks hw ⟨rfl, hp⟩ dX3_beginRepeat_38
set_option maxHeartbeats 4000000 in
set_option maxRecDepth 100000 in
theorem c_X3_beginRepeat (l : Launch) (G : GX) {Sh : SH} {a0 : Nat} {p1 : Int32} (h0 : isPre G Sh a0) {I : MI} {L : ML} {K : Int32 → MI → ML → Prop} (hp : wp_X3_beginRepeat G Sh a0 p1 I L K) : CtI l yX3_beginRepeat (wM yX3_beginRepeat cX3_beginRepeat 2 (some .boolean)) (rmA 0 0) G Sh [.ref a0, .int p1] I L K := by
  refine ofA (own := RX3) (by decide) rfl (Nat.le_of_ble_eq_true rfl) ?_
  intro p e s m args below meth c ls C hw hl
  obtain ⟨hx, hb, hr, hml, hown, hts, hlocks⟩ := id C
  replace hl : lv_has ls 2 [(0, .ref a0), (1, .int p1)] := hl
  unfold wp_X3_beginRepeat at hp
  refine lv_aload_n hx hb dX3_beginRepeat_0 rfl (lv_at hl 0 rfl) ?_
  refine gf_X3_33 hx hb hts hown hw (h0.1) dX3_beginRepeat_1 ?_
  refine lv_iconst (v := (-1)) hx hb dX3_beginRepeat_4 (by decide) ?_
  refine lv_icmp_ne (tgt := 25) hx hb dX3_beginRepeat_5 (by decide) (fun hc_1 => ?_) (fun hc_1 => ?_)
  · replace hp := hp.2 hc_1
    refine lv_iconst (v := 0) hx hb dX3_beginRepeat_25 (by decide) ?_
    exact r_zret hx hb hr hlocks hw ⟨rfl, hp⟩ dX3_beginRepeat_26
  · replace hp := hp.1 hc_1
    refine lv_iload_n hx hb dX3_beginRepeat_8 rfl (lv_at hl 1 rfl) ?_
    refine lv_if_le (tgt := 27) hx hb dX3_beginRepeat_9 (by decide) (fun hc_2 => ?_) (fun hc_2 => ?_)
    · replace hp := hp.1 hc_2
      exact w_X3_beginRepeat_27 C h0  _ _ _ _ _ hp hw (lv_sub hl [0] rfl)
    · replace hp := hp.2 hc_2
      refine lv_aload_n hx hb dX3_beginRepeat_12 rfl (lv_at hl 0 rfl) ?_
      refine gf_X3_9 hx hb hts hown hw (h0.1) dX3_beginRepeat_13 ?_
      refine lv_iload_n hx hb dX3_beginRepeat_16 rfl (lv_at hl 1 rfl) ?_
      refine lv_iconst (v := 1) hx hb dX3_beginRepeat_17 (by decide) ?_
      refine lv_isub hx hb dX3_beginRepeat_18 ?_
      refine lv_topi (fun x_3 ex_3 => ?_)
      replace hp := hp x_3 ex_3
      obtain ⟨hi_4, hp⟩ := hp
      refine r_cald hx hb hw (h0.2.1) hi_4 dX3_beginRepeat_19 ?_
      refine lv_bipush (v := 38) hx hb dX3_beginRepeat_20 (by decide) ?_
      refine lv_icmp_eq (tgt := 27) hx hb dX3_beginRepeat_22 (by decide) (fun hc_5 => ?_) (fun hc_5 => ?_)
      · replace hp := hp.1 hc_5
        exact w_X3_beginRepeat_27 C h0  _ _ _ _ _ hp hw (lv_sub hl [0] rfl)
      · replace hp := hp.2 hc_5
        refine lv_iconst (v := 0) hx hb dX3_beginRepeat_25 (by decide) ?_
        exact r_zret hx hb hr hlocks hw ⟨rfl, hp⟩ dX3_beginRepeat_26
set_option maxHeartbeats 4000000 in
set_option maxRecDepth 100000 in
theorem c_X3_beginTemplate (l : Launch) (G : GX) {Sh : SH} {a0 : Nat} (h0 : isPre G Sh a0) {I : MI} {L : ML} {K : Int32 → MI → ML → Prop} (hp : wp_X3_beginTemplate G Sh a0 I L K) : CtI l yX3_beginTemplate (wM yX3_beginTemplate cX3_beginTemplate 1 (some .boolean)) (rmA 0 0) G Sh [.ref a0] I L K := by
  refine ofA (own := RX3) (by decide) rfl (Nat.le_of_ble_eq_true rfl) ?_
  intro p e s m args below meth c ls C hw hl
  obtain ⟨hx, hb, hr, hml, hown, hts, hlocks⟩ := id C
  replace hl : lv_has ls 1 [(0, .ref a0)] := hl
  unfold wp_X3_beginTemplate at hp
  refine lv_aload_n hx hb dX3_beginTemplate_0 rfl (lv_at hl 0 rfl) ?_
  refine gf_X3_30 hx hb hts hown hw (h0.1) dX3_beginTemplate_1 ?_
  refine lv_bipush (v := 12) hx hb dX3_beginTemplate_4 (by decide) ?_
  refine lv_icmp_lt (tgt := 11) hx hb dX3_beginTemplate_6 (by decide) (fun hc_1 => ?_) (fun hc_1 => ?_)
  · replace hp := hp.1 hc_1
    refine lv_aload_n hx hb dX3_beginTemplate_11 rfl (lv_at hl 0 rfl) ?_
    refine lv_dup hx hb dX3_beginTemplate_12 rfl ?_
    refine gf_X3_30 hx hb hts hown hw (h0.1) dX3_beginTemplate_13 ?_
    refine lv_iconst (v := 1) hx hb dX3_beginTemplate_16 (by decide) ?_
    refine lv_iadd hx hb dX3_beginTemplate_17 ?_
    refine pf_X3_30 hx hb hts hown hw (h0.1) dX3_beginTemplate_18 (fun I_2 H locs eI_2 hw => ?_)
    replace hp := hp I_2 eI_2
    refine lv_aload_n hx hb dX3_beginTemplate_21 rfl (lv_at hl 0 rfl) ?_
    refine lv_iconst (v := 0) hx hb dX3_beginTemplate_22 (by decide) ?_
    refine pf_X3_36 hx hb hts hown hw (h0.1) (Or.inl rfl) dX3_beginTemplate_23 (fun I_3 H locs eI_3 hw => ?_)
    replace hp := hp I_3 eI_3
    refine lv_iconst (v := 1) hx hb dX3_beginTemplate_26 (by decide) ?_
    exact r_zret hx hb hr hlocks hw ⟨rfl, hp⟩ dX3_beginTemplate_27
  · replace hp := hp.2 hc_1
    refine lv_iconst (v := 0) hx hb dX3_beginTemplate_9 (by decide) ?_
    exact r_zret hx hb hr hlocks hw ⟨rfl, hp⟩ dX3_beginTemplate_10
set_option maxHeartbeats 4000000 in
set_option maxRecDepth 100000 in
theorem c_X3_columnLimit (l : Launch) (G : GX) {Sh : SH} {a0 : Nat} (h0 : isPre G Sh a0) {I : MI} {L : ML} {K : Int32 → MI → ML → Prop} (hp : wp_X3_columnLimit G Sh a0 I L K) : CtI l yX3_columnLimit (wM yX3_columnLimit cX3_columnLimit 1 (some .int)) (rmA 0 0) G Sh [.ref a0] I L K := by
  refine ofA (own := RX3) (by decide) rfl (Nat.le_of_ble_eq_true rfl) ?_
  intro p e s m args below meth c ls C hw hl
  obtain ⟨hx, hb, hr, hml, hown, hts, hlocks⟩ := id C
  replace hl : lv_has ls 1 [(0, .ref a0)] := hl
  unfold wp_X3_columnLimit at hp
  refine lv_aload_n hx hb dX3_columnLimit_0 rfl (lv_at hl 0 rfl) ?_
  refine gf_X3_33 hx hb hts hown hw (h0.1) dX3_columnLimit_1 ?_
  refine lv_iconst (v := (-1)) hx hb dX3_columnLimit_4 (by decide) ?_
  refine lv_icmp_ne (tgt := 15) hx hb dX3_columnLimit_5 (by decide) (fun hc_1 => ?_) (fun hc_1 => ?_)
  · replace hp := hp.2 hc_1
    refine lv_bipush (v := 24) hx hb dX3_columnLimit_15 (by decide) ?_
    exact r_iret hx hb hr hlocks hw hp dX3_columnLimit_17
  · replace hp := hp.1 hc_1
    refine lv_aload_n hx hb dX3_columnLimit_8 rfl (lv_at hl 0 rfl) ?_
    refine gf_X3_30 hx hb hts hown hw (h0.1) dX3_columnLimit_9 ?_
    refine lv_goto (tgt := 17) hx hb dX3_columnLimit_12 (by decide) ?_
    exact r_iret hx hb hr hlocks hw hp dX3_columnLimit_17
set_option maxHeartbeats 4000000 in
set_option maxRecDepth 100000 in
theorem w_X3_takeSign_77 {p : Program} {l : Launch} {e : Env} {s : State} {m : MethodId} {args : Array Value} {below : List Frame} {meth : Method} {c : Code} (C : Cx p s m args meth c cX3_takeSign (some .boolean) 4 RX3) {G : GX} {Sh : SH} {a0 : Nat} {p1 : Int32} {K : Int32 → MI → ML → Prop} (h0 : isPre G Sh a0) : ∀ (xl2 : Int32) (ws0 : Nat) (hws0 : Sh ws0 = some (sI G 12)) (I : MI) (L : ML) (H : Heap) (locs : List Loc) (ls : Array Slot), wp_X3_takeSign_77 G Sh a0 p1 K xl2 ws0 I L → mW G Sh s I L H locs → lv_has ls 4 [(0, .ref a0), (2, .int xl2)] → W p l e (rmA 1 21) s m args below meth c H locs 0 0 (eI below G Sh K args s) (F0 m 77 ls [.ref ws0]) := by
  obtain ⟨hx, hb, hr, hml, hown, hts, hlocks⟩ := id C
  intro xl2 ws0 hws0 I L H locs ls hp hw hl
  unfold wp_X3_takeSign_77 at hp
  refine lv_astore_n (lv' := [(3, .ref ws0), (0, .ref a0), (2, .int xl2)]) hx hb dX3_takeSign_77 rfl hl (by decide) rfl (fun ls hl => ?_)
  refine lv_aload_n hx hb dX3_takeSign_78 rfl (lv_at hl 0 rfl) ?_
  refine lv_aload_n hx hb dX3_takeSign_79 rfl (lv_at hl 1 rfl) ?_
  refine gf_X3_30 hx hb hts hown hw (h0.1) dX3_takeSign_80 ?_
  refine lv_iconst (v := 1) hx hb dX3_takeSign_83 (by decide) ?_
  refine lv_isub hx hb dX3_takeSign_84 ?_
  refine lv_topi (fun x_16 ex_16 => ?_)
  replace hp := hp x_16 ex_16
  refine lv_dup2_11 hx hb dX3_takeSign_85 rfl rfl ?_
  obtain ⟨hi_17, hp⟩ := hp
  refine r_iald hx hb hw (hws0) hi_17 dX3_takeSign_86 ?_
  refine lv_iload_n hx hb dX3_takeSign_87 rfl (lv_at hl 2 rfl) ?_
  refine lv_bipush (v := 97) hx hb dX3_takeSign_88 (by decide) ?_
  refine lv_isub hx hb dX3_takeSign_90 ?_
  refine lv_iconst (v := 1) hx hb dX3_takeSign_91 (by decide) ?_
  refine lv_iadd hx hb dX3_takeSign_92 ?_
  refine lv_iadd hx hb dX3_takeSign_93 ?_
  obtain ⟨hi_18, hp⟩ := hp
  refine r_iast hx hb hw (hws0) hi_18 dX3_takeSign_94 (fun I_19 H locs eI_19 hw => ?_)
  replace hp := hp I_19 eI_19
  refine lv_iconst (v := 1) hx hb dX3_takeSign_95 (by decide) ?_
  exact r_zret hx hb hr hlocks hw ⟨rfl, hp⟩ dX3_takeSign_96
set_option maxHeartbeats 4000000 in
set_option maxRecDepth 100000 in
theorem c_X3_takeSign (l : Launch) (G : GX) {Sh : SH} {a0 : Nat} {p1 : Int32} (h0 : isPre G Sh a0) {I : MI} {L : ML} {K : Int32 → MI → ML → Prop} (hp : wp_X3_takeSign G Sh a0 p1 I L K) : CtI l yX3_takeSign (wM yX3_takeSign cX3_takeSign 4 (some .boolean)) (rmA 1 21) G Sh [.ref a0, .int p1] I L K := by
  refine ofA (own := RX3) (by decide) rfl (Nat.le_of_ble_eq_true rfl) ?_
  intro p e s m args below meth c ls C hw hl
  obtain ⟨hx, hb, hr, hml, hown, hts, hlocks⟩ := id C
  replace hl : lv_has ls 4 [(0, .ref a0), (1, .int p1)] := hl
  unfold wp_X3_takeSign at hp
  refine lv_aload_n hx hb dX3_takeSign_0 rfl (lv_at hl 0 rfl) ?_
  refine gf_X3_9 hx hb hts hown hw (h0.1) dX3_takeSign_1 ?_
  refine lv_iload_n hx hb dX3_takeSign_4 rfl (lv_at hl 1 rfl) ?_
  obtain ⟨hi_1, hp⟩ := hp
  refine r_cald hx hb hw (h0.2.1) hi_1 dX3_takeSign_5 ?_
  refine lv_topi (fun x_2 ex_2 => ?_)
  replace hp := hp x_2 ex_2
  refine lv_istore_n (lv' := [(2, .int x_2), (0, .ref a0), (1, .int p1)]) hx hb dX3_takeSign_6 rfl hl (by decide) rfl (fun ls hl => ?_)
  refine lv_iload_n hx hb dX3_takeSign_7 rfl (lv_at hl 0 rfl) ?_
  refine lv_bipush (v := 35) hx hb dX3_takeSign_8 (by decide) ?_
  refine lv_icmp_ne (tgt := 33) hx hb dX3_takeSign_10 (by decide) (fun hc_3 => ?_) (fun hc_3 => ?_)
  · replace hp := hp.2 hc_3
    refine lv_iload_n hx hb dX3_takeSign_33 rfl (lv_at hl 0 rfl) ?_
    refine lv_bipush (v := 38) hx hb dX3_takeSign_34 (by decide) ?_
    refine lv_icmp_ne (tgt := 59) hx hb dX3_takeSign_36 (by decide) (fun hc_4 => ?_) (fun hc_4 => ?_)
    · replace hp := hp.2 hc_4
      refine lv_aload_n hx hb dX3_takeSign_59 rfl (lv_at hl 1 rfl) ?_
      refine gf_X3_36 hx hb hts hown hw (h0.1) dX3_takeSign_60 ?_
      refine lv_if_eq (tgt := 73) hx hb dX3_takeSign_63 (by decide) (fun hc_5 => ?_) (fun hc_5 => ?_)
      · replace hp := hp.1 hc_5
        refine lv_aload_n hx hb dX3_takeSign_73 rfl (lv_at hl 1 rfl) ?_
        refine gf_X3_15 hx hb hts hown hw (h0.1) dX3_takeSign_74 ?_
        exact w_X3_takeSign_77 C h0 (x_2) ((a0 + 2)) (h0.2.2.1) _ _ _ _ _ hp hw (lv_sub hl [1, 0] rfl)
      · replace hp := hp.2 hc_5
        refine lv_aload_n hx hb dX3_takeSign_66 rfl (lv_at hl 1 rfl) ?_
        refine gf_X3_19 hx hb hts hown hw (h0.1) dX3_takeSign_67 ?_
        refine lv_goto (tgt := 77) hx hb dX3_takeSign_70 (by decide) ?_
        exact w_X3_takeSign_77 C h0 (x_2) ((a0 + 3)) (h0.2.2.2) _ _ _ _ _ hp hw (lv_sub hl [1, 0] rfl)
    · replace hp := hp.1 hc_4
      refine lv_aload_n hx hb dX3_takeSign_39 rfl (lv_at hl 1 rfl) ?_
      refine gf_X3_36 hx hb hts hown hw (h0.1) dX3_takeSign_40 ?_
      refine lv_if_eq (tgt := 53) hx hb dX3_takeSign_43 (by decide) (fun hc_6 => ?_) (fun hc_6 => ?_)
      · replace hp := hp.1 hc_6
        refine lv_aload_n hx hb dX3_takeSign_53 rfl (lv_at hl 1 rfl) ?_
        refine lv_iload_n hx hb dX3_takeSign_54 rfl (lv_at hl 2 rfl) ?_
        refine r_cvI (As := [.int p1]) ⟨hx, hb, hml, hown, hts⟩ (c_X3_beginRepeat l G (h0) hp) (cw_X3_76 hts ⟨Nat.le_of_ble_eq_true rfl, Nat.le_of_ble_eq_true rfl⟩) hw (hw.recv (h0.1) rfl rfl) rfl rfl hl.1 (Nat.le_of_ble_eq_true rfl) ⟨Nat.zero_le _, Nat.zero_le _⟩ dX3_takeSign_55 (fun r_7 I_8 L_9 H locs hp hw => ?_)
        exact r_zret hx hb hr hlocks hw hp dX3_takeSign_58
      · replace hp := hp.2 hc_6
        refine lv_aload_n hx hb dX3_takeSign_46 rfl (lv_at hl 1 rfl) ?_
        refine r_cvI (As := []) ⟨hx, hb, hml, hown, hts⟩ (c_X3_beginTemplate l G (h0) hp) (cw_X3_72 hts ⟨Nat.le_of_ble_eq_true rfl, Nat.le_of_ble_eq_true rfl⟩) hw (hw.recv (h0.1) rfl rfl) rfl rfl hl.1 (Nat.le_of_ble_eq_true rfl) ⟨Nat.zero_le _, Nat.zero_le _⟩ dX3_takeSign_47 (fun r_10 I_11 L_12 H locs hp hw => ?_)
        refine lv_goto (tgt := 58) hx hb dX3_takeSign_50 (by decide) ?_
        exact r_zret hx hb hr hlocks hw hp dX3_takeSign_58
  · replace hp := hp.1 hc_3
    refine lv_aload_n hx hb dX3_takeSign_13 rfl (lv_at hl 1 rfl) ?_
    refine gf_X3_36 hx hb hts hown hw (h0.1) dX3_takeSign_14 ?_
    refine lv_if_ne (tgt := 24) hx hb dX3_takeSign_17 (by decide) (fun hc_13 => ?_) (fun hc_13 => ?_)
    · replace hp := hp.2 hc_13
      refine lv_iconst (v := 0) hx hb dX3_takeSign_24 (by decide) ?_
      refine lv_istore_n (lv' := [(3, .int (0 : Int32)), (2, .int x_2), (0, .ref a0), (1, .int p1)]) hx hb dX3_takeSign_25 rfl hl (by decide) rfl (fun ls hl => ?_)
      refine lv_aload_n hx hb dX3_takeSign_26 rfl (lv_at hl 2 rfl) ?_
      refine lv_iconst (v := 1) hx hb dX3_takeSign_27 (by decide) ?_
      refine pf_X3_36 hx hb hts hown hw (h0.1) (Or.inr rfl) dX3_takeSign_28 (fun I_14 H locs eI_14 hw => ?_)
      replace hp := hp I_14 eI_14
      refine lv_iload_n hx hb dX3_takeSign_31 rfl (lv_at hl 0 rfl) ?_
      exact r_zret hx hb hr hlocks hw ⟨rfl, hp⟩ dX3_takeSign_32
    · replace hp := hp.1 hc_13
      refine lv_iconst (v := 1) hx hb dX3_takeSign_20 (by decide) ?_
      refine lv_goto (tgt := 25) hx hb dX3_takeSign_21 (by decide) ?_
      refine lv_istore_n (lv' := [(3, .int (1 : Int32)), (2, .int x_2), (0, .ref a0), (1, .int p1)]) hx hb dX3_takeSign_25 rfl hl (by decide) rfl (fun ls hl => ?_)
      refine lv_aload_n hx hb dX3_takeSign_26 rfl (lv_at hl 2 rfl) ?_
      refine lv_iconst (v := 1) hx hb dX3_takeSign_27 (by decide) ?_
      refine pf_X3_36 hx hb hts hown hw (h0.1) (Or.inr rfl) dX3_takeSign_28 (fun I_15 H locs eI_15 hw => ?_)
      replace hp := hp I_15 eI_15
      refine lv_iload_n hx hb dX3_takeSign_31 rfl (lv_at hl 0 rfl) ?_
      exact r_zret hx hb hr hlocks hw ⟨rfl, hp⟩ dX3_takeSign_32
set_option maxHeartbeats 4000000 in
set_option maxRecDepth 100000 in
theorem w_X3_findWrongPlace_28 {p : Program} {l : Launch} {e : Env} {s : State} {m : MethodId} {args : Array Value} {below : List Frame} {meth : Method} {c : Code} (C : Cx p s m args meth c cX3_findWrongPlace (some .int) 2 RX3) {G : GX} {Sh : SH} {a0 : Nat} {K : Int32 → MI → ML → Prop} (h0 : isPre G Sh a0) : ∀ (n : Nat) (xl1 : Int32) (I : MI) (L : ML) (H : Heap) (locs : List Loc) (ls : Array Slot), wp_X3_findWrongPlace_28 G Sh a0 K n xl1 I L → mW G Sh s I L H locs → lv_has ls 2 [(0, .ref a0), (1, .int xl1)] → W p l e (rmA 2 44) s m args below meth c H locs 0 0 (eI below G Sh K args s) (F0 m 28 ls []) := by
  obtain ⟨hx, hb, hr, hml, hown, hts, hlocks⟩ := id C
  intro n
  induction n with
  | zero => intro xl1 I L H locs ls hp hw hl; exact hp.elim
  | succ n hB28 =>
    intro xl1 I L H locs ls hp hw hl
    replace hp : wb_X3_findWrongPlace_28 G Sh a0 K (wp_X3_findWrongPlace_28 G Sh a0 K n) xl1 I L := hp
    unfold wb_X3_findWrongPlace_28 at hp
    refine lv_iload_n hx hb dX3_findWrongPlace_28 rfl (lv_at hl 1 rfl) ?_
    refine lv_aload_n hx hb dX3_findWrongPlace_29 rfl (lv_at hl 0 rfl) ?_
    refine gf_X3_22 hx hb hts hown hw (h0.1) dX3_findWrongPlace_30 ?_
    refine lv_icmp_ge (tgt := 52) hx hb dX3_findWrongPlace_33 (by decide) (fun hc_9 => ?_) (fun hc_9 => ?_)
    · replace hp := hp.1 hc_9
      refine lv_aload_n hx hb dX3_findWrongPlace_52 rfl (lv_at hl 0 rfl) ?_
      refine gf_X3_36 hx hb hts hown hw (h0.1) dX3_findWrongPlace_53 ?_
      refine lv_if_eq (tgt := 63) hx hb dX3_findWrongPlace_56 (by decide) (fun hc_10 => ?_) (fun hc_10 => ?_)
      · replace hp := hp.1 hc_10
        refine lv_aload_n hx hb dX3_findWrongPlace_63 rfl (lv_at hl 0 rfl) ?_
        refine gf_X3_22 hx hb hts hown hw (h0.1) dX3_findWrongPlace_64 ?_
        exact r_iret hx hb hr hlocks hw hp dX3_findWrongPlace_67
      · replace hp := hp.2 hc_10
        refine lv_iconst (v := (-1)) hx hb dX3_findWrongPlace_59 (by decide) ?_
        refine lv_goto (tgt := 67) hx hb dX3_findWrongPlace_60 (by decide) ?_
        exact r_iret hx hb hr hlocks hw hp dX3_findWrongPlace_67
    · replace hp := hp.2 hc_9
      refine lv_aload_n hx hb dX3_findWrongPlace_36 rfl (lv_at hl 0 rfl) ?_
      refine lv_iload_n hx hb dX3_findWrongPlace_37 rfl (lv_at hl 1 rfl) ?_
      refine r_cvI (As := [.int xl1]) ⟨hx, hb, hml, hown, hts⟩ (c_X3_takeSign l G (h0) hp) (cw_X3_69 hts ⟨Nat.le_of_ble_eq_true rfl, Nat.le_of_ble_eq_true rfl⟩) hw (hw.recv (h0.1) rfl rfl) rfl rfl hl.1 (Nat.le_of_ble_eq_true rfl) ⟨Nat.zero_le _, Nat.zero_le _⟩ dX3_findWrongPlace_38 (fun r_11 I_12 L_13 H locs hp hw => ?_)
      refine lv_if_ne (tgt := 46) hx hb dX3_findWrongPlace_41 (by decide) (fun hc_14 => ?_) (fun hc_14 => ?_)
      · replace hp := hp.2 hc_14
        obtain ⟨x_15, ex_15⟩ : ∃ z : Int32, z = xl1 + (1 : Int32) := ⟨_, rfl⟩
        replace hp := hp x_15 ex_15
        refine lv_iinc (v := x_15) (lv' := [(1, .int x_15), (0, .ref a0)]) hx hb dX3_findWrongPlace_46 hl (k := 1) rfl (by rw [ex_15]; rfl) (by decide) rfl (fun ls hl => ?_)
        refine lv_goto (tgt := 28) hx hb dX3_findWrongPlace_49 (by decide) ?_
        exact hB28 (x_15) _ _ _ _ _ hp hw (lv_sub hl [1, 0] rfl)
      · replace hp := hp.1 hc_14
        refine lv_iload_n hx hb dX3_findWrongPlace_44 rfl (lv_at hl 1 rfl) ?_
        exact r_iret hx hb hr hlocks hw hp dX3_findWrongPlace_45
set_option maxHeartbeats 4000000 in
set_option maxRecDepth 100000 in
theorem c_X3_findWrongPlace (l : Launch) (G : GX) {Sh : SH} {a0 : Nat} (h0 : isPre G Sh a0) {I : MI} {L : ML} {K : Int32 → MI → ML → Prop} (hp : wp_X3_findWrongPlace G Sh a0 I L K) : CtI l yX3_findWrongPlace (wM yX3_findWrongPlace cX3_findWrongPlace 2 (some .int)) (rmA 2 44) G Sh [.ref a0] I L K := by
  refine ofA (own := RX3) (by decide) rfl (Nat.le_of_ble_eq_true rfl) ?_
  intro p e s m args below meth c ls C hw hl
  obtain ⟨hx, hb, hr, hml, hown, hts, hlocks⟩ := id C
  replace hl : lv_has ls 2 [(0, .ref a0)] := hl
  unfold wp_X3_findWrongPlace at hp
  refine lv_aload_n hx hb dX3_findWrongPlace_0 rfl (lv_at hl 0 rfl) ?_
  refine gf_X3_15 hx hb hts hown hw (h0.1) dX3_findWrongPlace_1 ?_
  refine lv_iconst (v := 0) hx hb dX3_findWrongPlace_4 (by decide) ?_
  refine r_csV (As := [.ref (a0 + 2), .int (0 : Int32)]) ⟨hx, hb, hml, hown, hts⟩ (c_J7_fill_53178 l G (h0.2.2.1) hp) (cw_X3_63 hts ⟨Nat.le_of_ble_eq_true rfl, Nat.le_of_ble_eq_true rfl⟩) hw rfl rfl hl.1 (Nat.le_of_ble_eq_true rfl) ⟨Nat.zero_le _, Nat.zero_le _⟩ dX3_findWrongPlace_5 (fun I_2 L_3 H locs hp hw => ?_)
  refine lv_aload_n hx hb dX3_findWrongPlace_8 rfl (lv_at hl 0 rfl) ?_
  refine gf_X3_19 hx hb hts hown hw (h0.1) dX3_findWrongPlace_9 ?_
  refine lv_iconst (v := 0) hx hb dX3_findWrongPlace_12 (by decide) ?_
  refine r_csV (As := [.ref (a0 + 3), .int (0 : Int32)]) ⟨hx, hb, hml, hown, hts⟩ (c_J7_fill_53178 l G (h0.2.2.2) hp) (cw_X3_63 hts ⟨Nat.le_of_ble_eq_true rfl, Nat.le_of_ble_eq_true rfl⟩) hw rfl rfl hl.1 (Nat.le_of_ble_eq_true rfl) ⟨Nat.zero_le _, Nat.zero_le _⟩ dX3_findWrongPlace_13 (fun I_5 L_6 H locs hp hw => ?_)
  refine lv_aload_n hx hb dX3_findWrongPlace_16 rfl (lv_at hl 0 rfl) ?_
  refine lv_iconst (v := 1) hx hb dX3_findWrongPlace_17 (by decide) ?_
  refine pf_X3_30 hx hb hts hown hw (h0.1) dX3_findWrongPlace_18 (fun I_7 H locs eI_7 hw => ?_)
  replace hp := hp I_7 eI_7
  refine lv_aload_n hx hb dX3_findWrongPlace_21 rfl (lv_at hl 0 rfl) ?_
  refine lv_iconst (v := 0) hx hb dX3_findWrongPlace_22 (by decide) ?_
  refine pf_X3_36 hx hb hts hown hw (h0.1) (Or.inl rfl) dX3_findWrongPlace_23 (fun I_8 H locs eI_8 hw => ?_)
  replace hp := hp I_8 eI_8
  refine lv_iconst (v := 0) hx hb dX3_findWrongPlace_26 (by decide) ?_
  refine lv_istore_n (lv' := [(1, .int (0 : Int32)), (0, .ref a0)]) hx hb dX3_findWrongPlace_27 rfl hl (by decide) rfl (fun ls hl => ?_)
  obtain ⟨n, hp⟩ := hp
  exact w_X3_findWrongPlace_28 C h0 n ((0 : Int32)) _ _ _ _ _ hp hw (lv_sub hl [1, 0] rfl)
set_option maxHeartbeats 4000000 in
set_option maxRecDepth 100000 in
theorem c_X3_readTape (l : Launch) (G : GX) {Sh : SH} {a0 : Nat} (h0 : isPre G Sh a0) {I : MI} {L : ML} {K : Int32 → MI → ML → Prop} (hp : wp_X3_readTape G Sh a0 I L K) : CtI l yX3_readTape (wM yX3_readTape cX3_readTape 2 (some .int)) (rmA 3 65) G Sh [.ref a0] I L K := by
  refine ofA (own := RX3) (by decide) rfl (Nat.le_of_ble_eq_true rfl) ?_
  intro p e s m args below meth c ls C hw hl
  obtain ⟨hx, hb, hr, hml, hown, hts, hlocks⟩ := id C
  replace hl : lv_has ls 2 [(0, .ref a0)] := hl
  unfold wp_X3_readTape at hp
  refine lv_aload_n hx hb dX3_readTape_0 rfl (lv_at hl 0 rfl) ?_
  refine gf_X3_26 hx hb hts hown hw (h0.1) dX3_readTape_1 ?_
  refine lv_if_eq (tgt := 10) hx hb dX3_readTape_4 (by decide) (fun hc_1 => ?_) (fun hc_1 => ?_)
  · replace hp := hp.1 hc_1
    refine lv_aload_n hx hb dX3_readTape_10 rfl (lv_at hl 0 rfl) ?_
    refine r_cvI (As := []) ⟨hx, hb, hml, hown, hts⟩ (c_X3_findWrongPlace l G (h0) hp) (cw_X3_59 hts ⟨Nat.le_of_ble_eq_true rfl, Nat.le_of_ble_eq_true rfl⟩) hw (hw.recv (h0.1) rfl rfl) rfl rfl hl.1 (Nat.le_of_ble_eq_true rfl) ⟨Nat.zero_le _, Nat.zero_le _⟩ dX3_readTape_11 (fun r_2 I_3 L_4 H locs hp hw => ?_)
    refine lv_istore_n (lv' := [(1, .int r_2), (0, .ref a0)]) hx hb dX3_readTape_14 rfl hl (by decide) rfl (fun ls hl => ?_)
    refine lv_iload_n hx hb dX3_readTape_15 rfl (lv_at hl 0 rfl) ?_
    refine lv_iconst (v := (-1)) hx hb dX3_readTape_16 (by decide) ?_
    refine lv_icmp_ne (tgt := 30) hx hb dX3_readTape_17 (by decide) (fun hc_5 => ?_) (fun hc_5 => ?_)
    · replace hp := hp.2 hc_5
      refine lv_aload_n hx hb dX3_readTape_30 rfl (lv_at hl 1 rfl) ?_
      refine lv_iconst (v := 0) hx hb dX3_readTape_31 (by decide) ?_
      refine pf_X3_22 hx hb hts hown hw (h0.1) dX3_readTape_32 (fun I_6 H locs eI_6 hw => ?_)
      replace hp := hp I_6 eI_6
      refine lv_aload_n hx hb dX3_readTape_35 rfl (lv_at hl 1 rfl) ?_
      refine lv_iconst (v := 0) hx hb dX3_readTape_36 (by decide) ?_
      refine pf_X3_30 hx hb hts hown hw (h0.1) dX3_readTape_37 (fun I_7 H locs eI_7 hw => ?_)
      replace hp := hp I_7 eI_7
      refine lv_aload_n hx hb dX3_readTape_40 rfl (lv_at hl 1 rfl) ?_
      refine lv_iconst (v := (-1)) hx hb dX3_readTape_41 (by decide) ?_
      refine pf_X3_33 hx hb hts hown hw (h0.1) dX3_readTape_42 (fun I_8 H locs eI_8 hw => ?_)
      replace hp := hp I_8 eI_8
      refine lv_bipush (v := (-10)) hx hb dX3_readTape_45 (by decide) ?_
      refine lv_iload_n hx hb dX3_readTape_47 rfl (lv_at hl 0 rfl) ?_
      refine lv_isub hx hb dX3_readTape_48 ?_
      exact r_iret hx hb hr hlocks hw hp dX3_readTape_49
    · replace hp := hp.1 hc_5
      refine lv_aload_n hx hb dX3_readTape_20 rfl (lv_at hl 1 rfl) ?_
      refine lv_iconst (v := 1) hx hb dX3_readTape_21 (by decide) ?_
      refine pf_X3_26 hx hb hts hown hw (h0.1) (Or.inr rfl) dX3_readTape_22 (fun I_9 H locs eI_9 hw => ?_)
      replace hp := hp I_9 eI_9
      refine lv_aload_n hx hb dX3_readTape_25 rfl (lv_at hl 1 rfl) ?_
      refine gf_X3_30 hx hb hts hown hw (h0.1) dX3_readTape_26 ?_
      exact r_iret hx hb hr hlocks hw hp dX3_readTape_29
  · replace hp := hp.2 hc_1
    refine lv_bipush (v := (-3)) hx hb dX3_readTape_7 (by decide) ?_
    exact r_iret hx hb hr hlocks hw hp dX3_readTape_9
set_option maxHeartbeats 4000000 in
set_option maxRecDepth 100000 in
theorem c_X3_textOf (l : Launch) (G : GX) {Sh : SH} {a0 : Nat} {p1 : Int32} {p2 : Int32} (h0 : isPre G Sh a0) {I : MI} {L : ML} {K : Int32 → MI → ML → Prop} (hp : wp_X3_textOf G Sh a0 p1 p2 I L K) : CtI l yX3_textOf (wM yX3_textOf cX3_textOf 3 (some .int)) (rmA 1 22) G Sh [.ref a0, .int p1, .int p2] I L K := by
  refine ofA (own := RX3) (by decide) rfl (Nat.le_of_ble_eq_true rfl) ?_
  intro p e s m args below meth c ls C hw hl
  obtain ⟨hx, hb, hr, hml, hown, hts, hlocks⟩ := id C
  replace hl : lv_has ls 3 [(0, .ref a0), (1, .int p1), (2, .int p2)] := hl
  unfold wp_X3_textOf at hp
  refine lv_aload_n hx hb dX3_textOf_0 rfl (lv_at hl 0 rfl) ?_
  refine gf_X3_15 hx hb hts hown hw (h0.1) dX3_textOf_1 ?_
  refine lv_aload_n hx hb dX3_textOf_4 rfl (lv_at hl 0 rfl) ?_
  refine lv_iload_n hx hb dX3_textOf_5 rfl (lv_at hl 1 rfl) ?_
  refine r_cvI (As := [.int p1]) ⟨hx, hb, hml, hown, hts⟩ (c_X3_templateOf l G (h0) hp) (cw_X3_79 hts ⟨Nat.le_of_ble_eq_true rfl, Nat.le_of_ble_eq_true rfl⟩) hw (hw.recv (h0.1) rfl rfl) rfl rfl hl.1 (Nat.le_of_ble_eq_true rfl) ⟨Nat.zero_le _, Nat.zero_le _⟩ dX3_textOf_6 (fun r_1 I_2 L_3 H locs hp hw => ?_)
  obtain ⟨hi_4, hp⟩ := hp
  refine r_iald hx hb hw (h0.2.2.1) hi_4 dX3_textOf_9 ?_
  refine lv_aload_n hx hb dX3_textOf_10 rfl (lv_at hl 0 rfl) ?_
  refine gf_X3_19 hx hb hts hown hw (h0.1) dX3_textOf_11 ?_
  refine lv_aload_n hx hb dX3_textOf_14 rfl (lv_at hl 0 rfl) ?_
  refine lv_iload_n hx hb dX3_textOf_15 rfl (lv_at hl 2 rfl) ?_
  refine r_cvI (As := [.int p2]) ⟨hx, hb, hml, hown, hts⟩ (c_X3_templateOf l G (h0) hp) (cw_X3_79 hts ⟨Nat.le_of_ble_eq_true rfl, Nat.le_of_ble_eq_true rfl⟩) hw (hw.recv (h0.1) rfl rfl) rfl rfl hl.1 (Nat.le_of_ble_eq_true rfl) ⟨Nat.zero_le _, Nat.zero_le _⟩ dX3_textOf_16 (fun r_5 I_6 L_7 H locs hp hw => ?_)
  obtain ⟨hi_8, hp⟩ := hp
  refine r_iald hx hb hw (h0.2.2.2) hi_8 dX3_textOf_19 ?_
  refine lv_iadd hx hb dX3_textOf_20 ?_
  exact r_iret hx hb hr hlocks hw hp dX3_textOf_21
set_option maxHeartbeats 4000000 in
set_option maxRecDepth 100000 in
theorem c_X4_append (l : Launch) (G : GX) {Sh : SH} {a0 : Nat} {p1 : Int32} {p2 : Int32} (h0 : isRow G Sh a0) {I : MI} {L : ML} {K : MI → ML → Prop} (hp : wp_X4_append G Sh a0 p1 p2 I L K) : CtV l yX4_append (wM yX4_append cX4_append 3 none) (rmA 0 0) G Sh [.ref a0, .int p1, .int p2] I L K := by
  refine ofA (own := RX4) (by decide) rfl (Nat.le_of_ble_eq_true rfl) ?_
  intro p e s m args below meth c ls C hw hl
  obtain ⟨hx, hb, hr, hml, hown, hts, hlocks⟩ := id C
  replace hl : lv_has ls 3 [(0, .ref a0), (1, .int p1), (2, .int p2)] := hl
  unfold wp_X4_append at hp
  refine lv_aload_n hx hb dX4_append_0 rfl (lv_at hl 0 rfl) ?_
  refine gf_X4_9 hx hb hts hown hw (h0.1) dX4_append_1 ?_
  refine lv_aload_n hx hb dX4_append_4 rfl (lv_at hl 0 rfl) ?_
  refine gf_X4_21 hx hb hts hown hw (h0.1) dX4_append_5 ?_
  refine lv_iload_n hx hb dX4_append_8 rfl (lv_at hl 1 rfl) ?_
  obtain ⟨hi_1, hp⟩ := hp
  refine r_iast hx hb hw (h0.2.1) hi_1 dX4_append_9 (fun I_2 H locs eI_2 hw => ?_)
  replace hp := hp I_2 eI_2
  refine lv_aload_n hx hb dX4_append_10 rfl (lv_at hl 0 rfl) ?_
  refine gf_X4_15 hx hb hts hown hw (h0.1) dX4_append_11 ?_
  refine lv_aload_n hx hb dX4_append_14 rfl (lv_at hl 0 rfl) ?_
  refine gf_X4_21 hx hb hts hown hw (h0.1) dX4_append_15 ?_
  refine lv_aload_n hx hb dX4_append_18 rfl (lv_at hl 0 rfl) ?_
  refine gf_X4_25 hx hb hts hown hw (h0.1) dX4_append_19 ?_
  obtain ⟨hi_3, hp⟩ := hp
  refine r_iast hx hb hw (h0.2.2.1) hi_3 dX4_append_22 (fun I_4 H locs eI_4 hw => ?_)
  replace hp := hp I_4 eI_4
  refine lv_aload_n hx hb dX4_append_23 rfl (lv_at hl 0 rfl) ?_
  refine gf_X4_18 hx hb hts hown hw (h0.1) dX4_append_24 ?_
  refine lv_aload_n hx hb dX4_append_27 rfl (lv_at hl 0 rfl) ?_
  refine gf_X4_21 hx hb hts hown hw (h0.1) dX4_append_28 ?_
  refine lv_iload_n hx hb dX4_append_31 rfl (lv_at hl 2 rfl) ?_
  obtain ⟨hi_5, hp⟩ := hp
  refine r_iast hx hb hw (h0.2.2.2) hi_5 dX4_append_32 (fun I_6 H locs eI_6 hw => ?_)
  replace hp := hp I_6 eI_6
  refine lv_aload_n hx hb dX4_append_33 rfl (lv_at hl 0 rfl) ?_
  refine lv_dup hx hb dX4_append_34 rfl ?_
  refine gf_X4_21 hx hb hts hown hw (h0.1) dX4_append_35 ?_
  refine lv_iconst (v := 1) hx hb dX4_append_38 (by decide) ?_
  refine lv_iadd hx hb dX4_append_39 ?_
  refine pf_X4_21 hx hb hts hown hw (h0.1) dX4_append_40 (fun I_7 H locs eI_7 hw => ?_)
  replace hp := hp I_7 eI_7
  refine lv_aload_n hx hb dX4_append_43 rfl (lv_at hl 0 rfl) ?_
  refine lv_dup hx hb dX4_append_44 rfl ?_
  refine gf_X4_25 hx hb hts hown hw (h0.1) dX4_append_45 ?_
  refine lv_iload_n hx hb dX4_append_48 rfl (lv_at hl 2 rfl) ?_
  refine lv_iadd hx hb dX4_append_49 ?_
  refine pf_X4_25 hx hb hts hown hw (h0.1) dX4_append_50 (fun I_8 H locs eI_8 hw => ?_)
  replace hp := hp I_8 eI_8
  exact r_vret hx hb hr hlocks hw hp dX4_append_53
set_option maxHeartbeats 4000000 in
set_option maxRecDepth 100000 in
theorem c_X5_isAtRest (l : Launch) (G : GX) {Sh : SH} {a0 : Nat} (h0 : isTable G Sh a0) {I : MI} {L : ML} {K : Int32 → MI → ML → Prop} (hp : wp_X5_isAtRest G Sh a0 I L K) : CtI l yX5_isAtRest (wM yX5_isAtRest cX5_isAtRest 1 (some .boolean)) (rmA 0 0) G Sh [.ref a0] I L K := by
  refine ofA (own := RX5) (by decide) rfl (Nat.le_of_ble_eq_true rfl) ?_
  intro p e s m args below meth c ls C hw hl
  obtain ⟨hx, hb, hr, hml, hown, hts, hlocks⟩ := id C
  replace hl : lv_has ls 1 [(0, .ref a0)] := hl
  unfold wp_X5_isAtRest at hp
  refine lv_aload_n hx hb dX5_isAtRest_0 rfl (lv_at hl 0 rfl) ?_
  refine gf_X5_12 hx hb hts hown hw (h0.1) dX5_isAtRest_1 ?_
  refine gf_X5_57 hx hb hts hown hw (h0.2.1.1) dX5_isAtRest_4 ?_
  refine lv_if_eq (tgt := 21) hx hb dX5_isAtRest_7 (by decide) (fun hc_1 => ?_) (fun hc_1 => ?_)
  · replace hp := hp.1 hc_1
    refine lv_iconst (v := 0) hx hb dX5_isAtRest_21 (by decide) ?_
    exact r_zret hx hb hr hlocks hw ⟨rfl, hp⟩ dX5_isAtRest_22
  · replace hp := hp.2 hc_1
    refine lv_aload_n hx hb dX5_isAtRest_10 rfl (lv_at hl 0 rfl) ?_
    refine gf_X5_51 hx hb hts hown hw (h0.1) dX5_isAtRest_11 ?_
    refine lv_if_ne (tgt := 21) hx hb dX5_isAtRest_14 (by decide) (fun hc_2 => ?_) (fun hc_2 => ?_)
    · replace hp := hp.2 hc_2
      refine lv_iconst (v := 0) hx hb dX5_isAtRest_21 (by decide) ?_
      exact r_zret hx hb hr hlocks hw ⟨rfl, hp⟩ dX5_isAtRest_22
    · replace hp := hp.1 hc_2
      refine lv_iconst (v := 1) hx hb dX5_isAtRest_17 (by decide) ?_
      refine lv_goto (tgt := 22) hx hb dX5_isAtRest_18 (by decide) ?_
      exact r_zret hx hb hr hlocks hw ⟨rfl, hp⟩ dX5_isAtRest_22
set_option maxHeartbeats 4000000 in
set_option maxRecDepth 100000 in
theorem c_X5_putItem (l : Launch) (G : GX) {Sh : SH} {a0 : Nat} {p1 : Int32} (h0 : isTable G Sh a0) {I : MI} {L : ML} {K : MI → ML → Prop} (hp : wp_X5_putItem G Sh a0 p1 I L K) : CtV l yX5_putItem (wM yX5_putItem cX5_putItem 2 none) (rmA 0 0) G Sh [.ref a0, .int p1] I L K := by
  refine ofA (own := RX5) (by decide) rfl (Nat.le_of_ble_eq_true rfl) ?_
  intro p e s m args below meth c ls C hw hl
  obtain ⟨hx, hb, hr, hml, hown, hts, hlocks⟩ := id C
  replace hl : lv_has ls 2 [(0, .ref a0), (1, .int p1)] := hl
  unfold wp_X5_putItem at hp
  refine lv_aload_n hx hb dX5_putItem_0 rfl (lv_at hl 0 rfl) ?_
  refine gf_X5_30 hx hb hts hown hw (h0.1) dX5_putItem_1 ?_
  refine lv_aload_n hx hb dX5_putItem_4 rfl (lv_at hl 0 rfl) ?_
  refine gf_X5_48 hx hb hts hown hw (h0.1) dX5_putItem_5 ?_
  refine lv_iload_n hx hb dX5_putItem_8 rfl (lv_at hl 1 rfl) ?_
  obtain ⟨hi_1, hp⟩ := hp
  refine r_iast hx hb hw (h0.2.2.2.2.1) hi_1 dX5_putItem_9 (fun I_2 H locs eI_2 hw => ?_)
  replace hp := hp I_2 eI_2
  refine lv_aload_n hx hb dX5_putItem_10 rfl (lv_at hl 0 rfl) ?_
  refine lv_dup hx hb dX5_putItem_11 rfl ?_
  refine gf_X5_48 hx hb hts hown hw (h0.1) dX5_putItem_12 ?_
  refine lv_iconst (v := 1) hx hb dX5_putItem_15 (by decide) ?_
  refine lv_iadd hx hb dX5_putItem_16 ?_
  refine pf_X5_48 hx hb hts hown hw (h0.1) dX5_putItem_17 (fun I_3 H locs eI_3 hw => ?_)
  replace hp := hp I_3 eI_3
  exact r_vret hx hb hr hlocks hw hp dX5_putItem_20
set_option maxHeartbeats 4000000 in
set_option maxRecDepth 100000 in
theorem c_X5_addBetween (l : Launch) (G : GX) {Sh : SH} {a0 : Nat} (h0 : isTable G Sh a0) {I : MI} {L : ML} {K : Int32 → MI → ML → Prop} (hp : wp_X5_addBetween G Sh a0 I L K) : CtI l yX5_addBetween (wM yX5_addBetween cX5_addBetween 1 (some .int)) (rmA 1 21) G Sh [.ref a0] I L K := by
  refine ofA (own := RX5) (by decide) rfl (Nat.le_of_ble_eq_true rfl) ?_
  intro p e s m args below meth c ls C hw hl
  obtain ⟨hx, hb, hr, hml, hown, hts, hlocks⟩ := id C
  replace hl : lv_has ls 1 [(0, .ref a0)] := hl
  unfold wp_X5_addBetween at hp
  refine lv_aload_n hx hb dX5_addBetween_0 rfl (lv_at hl 0 rfl) ?_
  refine r_cvI (As := []) ⟨hx, hb, hml, hown, hts⟩ (c_X5_isAtRest l G (h0) hp) (cw_X5_67 hts ⟨Nat.le_of_ble_eq_true rfl, Nat.le_of_ble_eq_true rfl⟩) hw (hw.recv (h0.1) rfl rfl) rfl rfl hl.1 (Nat.le_of_ble_eq_true rfl) ⟨Nat.zero_le _, Nat.zero_le _⟩ dX5_addBetween_1 (fun r_1 I_2 L_3 H locs hp hw => ?_)
  refine lv_if_ne (tgt := 10) hx hb dX5_addBetween_4 (by decide) (fun hc_4 => ?_) (fun hc_4 => ?_)
  · replace hp := hp.2 hc_4
    refine lv_aload_n hx hb dX5_addBetween_10 rfl (lv_at hl 0 rfl) ?_
    refine gf_X5_45 hx hb hts hown hw (h0.1) dX5_addBetween_11 ?_
    refine lv_bipush (v := 20) hx hb dX5_addBetween_14 (by decide) ?_
    refine lv_icmp_lt (tgt := 22) hx hb dX5_addBetween_16 (by decide) (fun hc_5 => ?_) (fun hc_5 => ?_)
    · replace hp := hp.1 hc_5
      refine lv_aload_n hx hb dX5_addBetween_22 rfl (lv_at hl 0 rfl) ?_
      refine lv_iconst (v := (-1)) hx hb dX5_addBetween_23 (by decide) ?_
      refine lv_aload_n hx hb dX5_addBetween_24 rfl (lv_at hl 0 rfl) ?_
      refine gf_X5_45 hx hb hts hown hw (h0.1) dX5_addBetween_25 ?_
      refine lv_isub hx hb dX5_addBetween_28 ?_
      refine r_cvV (As := [.int ((-1 : Int32) - (I_2 a0 6))]) ⟨hx, hb, hml, hown, hts⟩ (c_X5_putItem l G (h0) hp) (cw_X5_71 hts ⟨Nat.le_of_ble_eq_true rfl, Nat.le_of_ble_eq_true rfl⟩) hw (hw.recv (h0.1) rfl rfl) rfl rfl hl.1 (Nat.le_of_ble_eq_true rfl) ⟨Nat.zero_le _, Nat.zero_le _⟩ dX5_addBetween_29 (fun I_7 L_8 H locs hp hw => ?_)
      refine lv_aload_n hx hb dX5_addBetween_32 rfl (lv_at hl 0 rfl) ?_
      refine lv_dup hx hb dX5_addBetween_33 rfl ?_
      refine gf_X5_45 hx hb hts hown hw (h0.1) dX5_addBetween_34 ?_
      refine lv_iconst (v := 1) hx hb dX5_addBetween_37 (by decide) ?_
      refine lv_iadd hx hb dX5_addBetween_38 ?_
      refine pf_X5_45 hx hb hts hown hw (h0.1) dX5_addBetween_39 (fun I_9 H locs eI_9 hw => ?_)
      replace hp := hp I_9 eI_9
      refine lv_aload_n hx hb dX5_addBetween_42 rfl (lv_at hl 0 rfl) ?_
      refine gf_X5_45 hx hb hts hown hw (h0.1) dX5_addBetween_43 ?_
      exact r_iret hx hb hr hlocks hw hp dX5_addBetween_46
    · replace hp := hp.2 hc_5
      refine lv_bipush (v := (-4)) hx hb dX5_addBetween_19 (by decide) ?_
      exact r_iret hx hb hr hlocks hw hp dX5_addBetween_21
  · replace hp := hp.1 hc_4
    refine lv_bipush (v := (-3)) hx hb dX5_addBetween_7 (by decide) ?_
    exact r_iret hx hb hr hlocks hw hp dX5_addBetween_9
set_option maxHeartbeats 4000000 in
set_option maxRecDepth 100000 in
theorem w_X5_addEntry_78 {p : Program} {l : Launch} {e : Env} {s : State} {m : MethodId} {args : Array Value} {below : List Frame} {meth : Method} {c : Code} (C : Cx p s m args meth c cX5_addEntry (some .int) 7 RX5) {G : GX} {Sh : SH} {a0 : Nat} {p1 : Int32} {p2 : Int32} {p3 : Int32} {K : Int32 → MI → ML → Prop} (h0 : isTable G Sh a0) : ∀ (xl5 : Int32) (xs0 : Int32) (ws1 : Nat) (hws1 : isRow G Sh ws1) (I : MI) (L : ML) (H : Heap) (locs : List Loc) (ls : Array Slot), wp_X5_addEntry_78 G Sh a0 p1 p2 p3 K xl5 xs0 ws1 I L → mW G Sh s I L H locs → lv_has ls 7 [(2, .int p2), (5, .int xl5)] → W p l e (rmA 2 44) s m args below meth c H locs 0 0 (eI below G Sh K args s) (F0 m 78 ls [.int xs0, .ref ws1]) := by
  obtain ⟨hx, hb, hr, hml, hown, hts, hlocks⟩ := id C
  intro xl5 xs0 ws1 hws1 I L H locs ls hp hw hl
  unfold wp_X5_addEntry_78 at hp
  refine lv_iload_n hx hb dX5_addEntry_78 rfl (lv_at hl 0 rfl) ?_
  refine r_cvV (As := [.int xs0, .int p2]) ⟨hx, hb, hml, hown, hts⟩ (c_X4_append l G (hws1) hp) (cw_X5_89 hts ⟨Nat.le_of_ble_eq_true rfl, Nat.le_of_ble_eq_true rfl⟩) hw (hw.recv (hws1.1) rfl rfl) rfl rfl hl.1 (Nat.le_of_ble_eq_true rfl) ⟨Nat.zero_le _, Nat.zero_le _⟩ dX5_addEntry_79 (fun I_18 L_19 H locs hp hw => ?_)
  refine lv_iload hx hb dX5_addEntry_82 (lv_at hl 1 rfl) ?_
  exact r_iret hx hb hr hlocks hw hp dX5_addEntry_84
set_option maxHeartbeats 4000000 in
set_option maxRecDepth 100000 in
theorem c_X5_addEntry (l : Launch) (G : GX) {Sh : SH} {a0 : Nat} {p1 : Int32} {p2 : Int32} {p3 : Int32} (h0 : isTable G Sh a0) {I : MI} {L : ML} {K : Int32 → MI → ML → Prop} (hp : wp_X5_addEntry G Sh a0 p1 p2 p3 I L K) : CtI l yX5_addEntry (wM yX5_addEntry cX5_addEntry 7 (some .int)) (rmA 2 44) G Sh [.ref a0, .int p1, .int p2, .int p3] I L K := by
  refine ofA (own := RX5) (by decide) rfl (Nat.le_of_ble_eq_true rfl) ?_
  intro p e s m args below meth c ls C hw hl
  obtain ⟨hx, hb, hr, hml, hown, hts, hlocks⟩ := id C
  replace hl : lv_has ls 7 [(0, .ref a0), (1, .int p1), (2, .int p2), (3, .int p3)] := hl
  unfold wp_X5_addEntry at hp
  refine lv_iload_n hx hb dX5_addEntry_0 rfl (lv_at hl 2 rfl) ?_
  refine lv_iconst (v := 1) hx hb dX5_addEntry_1 (by decide) ?_
  refine lv_bipush (v := 8) hx hb dX5_addEntry_2 (by decide) ?_
  refine r_csNI (As := [.int p2, .int (1 : Int32), .int (8 : Int32)]) ⟨hx, hb, hml, hown, hts⟩ (c_X6_isIn l G  hp) (cw_X5_63 hts hw ⟨Nat.le_of_ble_eq_true rfl, Nat.le_of_ble_eq_true rfl⟩) hw rfl rfl hl.1 (Nat.le_of_ble_eq_true rfl) ⟨Nat.zero_le _, Nat.zero_le _⟩ dX5_addEntry_4 (fun r_1 I_2 L_3 H locs hp hw => ?_)
  refine lv_if_ne (tgt := 13) hx hb dX5_addEntry_7 (by decide) (fun hc_4 => ?_) (fun hc_4 => ?_)
  · replace hp := hp.2 hc_4
    refine lv_aload_n hx hb dX5_addEntry_13 rfl (lv_at hl 0 rfl) ?_
    refine gf_X5_26 hx hb hts hown hw (h0.1) dX5_addEntry_14 ?_
    refine lv_aload_n hx hb dX5_addEntry_17 rfl (lv_at hl 0 rfl) ?_
    refine gf_X5_41 hx hb hts hown hw (h0.1) dX5_addEntry_18 ?_
    refine lv_iconst (v := 1) hx hb dX5_addEntry_21 (by decide) ?_
    refine lv_isub hx hb dX5_addEntry_22 ?_
    refine lv_topi (fun x_5 ex_5 => ?_)
    replace hp := hp x_5 ex_5
    obtain ⟨hi_6, hp⟩ := hp
    refine r_aaldF hx hb hw (h0.2.2.2.1) rfl hi_6 (b := (a0 + 54 + 4 * (x_5).toNatClampNeg)) (if_pos (vp_lt hi_6)) dX5_addEntry_23 ?_
    refine lv_astore (lv' := [(4, .ref (a0 + 54 + 4 * (x_5).toNatClampNeg)), (0, .ref a0), (1, .int p1), (2, .int p2), (3, .int p3)]) hx hb dX5_addEntry_24 hl (by decide) rfl (fun ls hl => ?_)
    refine lv_aload hx hb dX5_addEntry_26 (lv_at hl 0 rfl) ?_
    refine gf_X5_78 hx hb hts hown hw ((h0.2.2.2.2.2.2.2 _ (vp_lt hi_6)).1) dX5_addEntry_28 ?_
    refine lv_topi (fun x_7 ex_7 => ?_)
    replace hp := hp x_7 ex_7
    refine lv_istore (lv' := [(5, .int x_7), (4, .ref (a0 + 54 + 4 * (x_5).toNatClampNeg)), (0, .ref a0), (1, .int p1), (2, .int p2), (3, .int p3)]) hx hb dX5_addEntry_31 hl (by decide) rfl (fun ls hl => ?_)
    refine lv_iload hx hb dX5_addEntry_33 (lv_at hl 0 rfl) ?_
    refine lv_iload_n hx hb dX5_addEntry_35 rfl (lv_at hl 4 rfl) ?_
    refine lv_iadd hx hb dX5_addEntry_36 ?_
    refine lv_iconst (v := 1) hx hb dX5_addEntry_37 (by decide) ?_
    refine lv_isub hx hb dX5_addEntry_38 ?_
    refine lv_topi (fun x_8 ex_8 => ?_)
    replace hp := hp x_8 ex_8
    refine lv_istore (lv' := [(6, .int x_8), (5, .int x_7), (4, .ref (a0 + 54 + 4 * (x_5).toNatClampNeg)), (0, .ref a0), (1, .int p1), (2, .int p2), (3, .int p3)]) hx hb dX5_addEntry_39 hl (by decide) rfl (fun ls hl => ?_)
    refine lv_iload hx hb dX5_addEntry_41 (lv_at hl 0 rfl) ?_
    refine lv_aload_n hx hb dX5_addEntry_43 rfl (lv_at hl 3 rfl) ?_
    refine gf_X5_12 hx hb hts hown hw (h0.1) dX5_addEntry_44 ?_
    refine r_cvI (As := []) ⟨hx, hb, hml, hown, hts⟩ (c_X3_columnLimit l G (h0.2.1) hp) (cw_X5_81 hts ⟨Nat.le_of_ble_eq_true rfl, Nat.le_of_ble_eq_true rfl⟩) hw (hw.recv (h0.2.1.1) rfl rfl) rfl rfl hl.1 (Nat.le_of_ble_eq_true rfl) ⟨Nat.zero_le _, Nat.zero_le _⟩ dX5_addEntry_47 (fun r_9 I_10 L_11 H locs hp hw => ?_)
    refine lv_icmp_lt (tgt := 55) hx hb dX5_addEntry_50 (by decide) (fun hc_12 => ?_) (fun hc_12 => ?_)
    · replace hp := hp.1 hc_12
      refine lv_aload hx hb dX5_addEntry_55 (lv_at hl 2 rfl) ?_
      refine lv_iload_n hx hb dX5_addEntry_57 rfl (lv_at hl 6 rfl) ?_
      refine lv_if_eq (tgt := 65) hx hb dX5_addEntry_58 (by decide) (fun hc_13 => ?_) (fun hc_13 => ?_)
      · replace hp := hp.1 hc_13
        refine lv_iload_n hx hb dX5_addEntry_65 rfl (lv_at hl 4 rfl) ?_
        refine lv_aload_n hx hb dX5_addEntry_66 rfl (lv_at hl 3 rfl) ?_
        refine gf_X5_12 hx hb hts hown hw (h0.1) dX5_addEntry_67 ?_
        refine lv_iload hx hb dX5_addEntry_70 (lv_at hl 1 rfl) ?_
        refine lv_iload hx hb dX5_addEntry_72 (lv_at hl 0 rfl) ?_
        refine r_cvI (As := [.int x_7, .int x_8]) ⟨hx, hb, hml, hown, hts⟩ (c_X3_textOf l G (h0.2.1) hp) (cw_X5_85 hts ⟨Nat.le_of_ble_eq_true rfl, Nat.le_of_ble_eq_true rfl⟩) hw (hw.recv (h0.2.1.1) rfl rfl) rfl rfl hl.1 (Nat.le_of_ble_eq_true rfl) ⟨Nat.zero_le _, Nat.zero_le _⟩ dX5_addEntry_74 (fun r_14 I_15 L_16 H locs hp hw => ?_)
        refine lv_iadd hx hb dX5_addEntry_77 ?_
        exact w_X5_addEntry_78 C h0 (x_7) ((p1 + r_14)) ((a0 + 54 + 4 * (x_5).toNatClampNeg)) ((h0.2.2.2.2.2.2.2 _ (vp_lt hi_6))) _ _ _ _ _ hp hw (lv_sub hl [5, 1] rfl)
      · replace hp := hp.2 hc_13
        refine lv_iload_n hx hb dX5_addEntry_61 rfl (lv_at hl 4 rfl) ?_
        refine lv_goto (tgt := 78) hx hb dX5_addEntry_62 (by decide) ?_
        exact w_X5_addEntry_78 C h0 (x_7) (p1) ((a0 + 54 + 4 * (x_5).toNatClampNeg)) ((h0.2.2.2.2.2.2.2 _ (vp_lt hi_6))) _ _ _ _ _ hp hw (lv_sub hl [5, 1] rfl)
    · replace hp := hp.2 hc_12
      refine lv_iconst (v := (-1)) hx hb dX5_addEntry_53 (by decide) ?_
      exact r_iret hx hb hr hlocks hw hp dX5_addEntry_54
  · replace hp := hp.1 hc_4
    refine lv_bipush (v := (-2)) hx hb dX5_addEntry_10 (by decide) ?_
    exact r_iret hx hb hr hlocks hw hp dX5_addEntry_12
set_option maxHeartbeats 4000000 in
set_option maxRecDepth 100000 in
theorem c_X5_closeRow (l : Launch) (G : GX) {Sh : SH} {a0 : Nat} (h0 : isTable G Sh a0) {I : MI} {L : ML} {K : Int32 → MI → ML → Prop} (hp : wp_X5_closeRow G Sh a0 I L K) : CtI l yX5_closeRow (wM yX5_closeRow cX5_closeRow 1 (some .int)) (rmA 0 0) G Sh [.ref a0] I L K := by
  refine ofA (own := RX5) (by decide) rfl (Nat.le_of_ble_eq_true rfl) ?_
  intro p e s m args below meth c ls C hw hl
  obtain ⟨hx, hb, hr, hml, hown, hts, hlocks⟩ := id C
  replace hl : lv_has ls 1 [(0, .ref a0)] := hl
  unfold wp_X5_closeRow at hp
  refine lv_aload_n hx hb dX5_closeRow_0 rfl (lv_at hl 0 rfl) ?_
  refine gf_X5_51 hx hb hts hown hw (h0.1) dX5_closeRow_1 ?_
  refine lv_if_ne (tgt := 10) hx hb dX5_closeRow_4 (by decide) (fun hc_1 => ?_) (fun hc_1 => ?_)
  · replace hp := hp.2 hc_1
    refine lv_aload_n hx hb dX5_closeRow_10 rfl (lv_at hl 0 rfl) ?_
    refine lv_iconst (v := 0) hx hb dX5_closeRow_11 (by decide) ?_
    refine pf_X5_51 hx hb hts hown hw (h0.1) (Or.inl rfl) dX5_closeRow_12 (fun I_2 H locs eI_2 hw => ?_)
    replace hp := hp I_2 eI_2
    refine lv_aload_n hx hb dX5_closeRow_15 rfl (lv_at hl 0 rfl) ?_
    refine gf_X5_26 hx hb hts hown hw (h0.1) dX5_closeRow_16 ?_
    refine lv_aload_n hx hb dX5_closeRow_19 rfl (lv_at hl 0 rfl) ?_
    refine gf_X5_41 hx hb hts hown hw (h0.1) dX5_closeRow_20 ?_
    refine lv_iconst (v := 1) hx hb dX5_closeRow_23 (by decide) ?_
    refine lv_isub hx hb dX5_closeRow_24 ?_
    refine lv_topi (fun x_3 ex_3 => ?_)
    replace hp := hp x_3 ex_3
    obtain ⟨hi_4, hp⟩ := hp
    refine r_aaldF hx hb hw (h0.2.2.2.1) rfl hi_4 (b := (a0 + 54 + 4 * (x_3).toNatClampNeg)) (if_pos (vp_lt hi_4)) dX5_closeRow_25 ?_
    refine gf_X5_75 hx hb hts hown hw ((h0.2.2.2.2.2.2.2 _ (vp_lt hi_4)).1) dX5_closeRow_26 ?_
    exact r_iret hx hb hr hlocks hw hp dX5_closeRow_29
  · replace hp := hp.1 hc_1
    refine lv_bipush (v := (-3)) hx hb dX5_closeRow_7 (by decide) ?_
    exact r_iret hx hb hr hlocks hw hp dX5_closeRow_9
set_option maxHeartbeats 4000000 in
set_option maxRecDepth 100000 in
theorem w_X5_entriesOfAll_4 {p : Program} {l : Launch} {e : Env} {s : State} {m : MethodId} {args : Array Value} {below : List Frame} {meth : Method} {c : Code} (C : Cx p s m args meth c cX5_entriesOfAll (some .int) 3 RX5) {G : GX} {Sh : SH} {a0 : Nat} {K : Int32 → MI → ML → Prop} (h0 : isTable G Sh a0) : ∀ (n : Nat) (xl1 : Int32) (xl2 : Int32) (I : MI) (L : ML) (H : Heap) (locs : List Loc) (ls : Array Slot), wp_X5_entriesOfAll_4 G Sh a0 K n xl1 xl2 I L → mW G Sh s I L H locs → lv_has ls 3 [(0, .ref a0), (1, .int xl1), (2, .int xl2)] → W p l e (rmA 0 0) s m args below meth c H locs 0 0 (eI below G Sh K args s) (F0 m 4 ls []) := by
  obtain ⟨hx, hb, hr, hml, hown, hts, hlocks⟩ := id C
  intro n
  induction n with
  | zero => intro xl1 xl2 I L H locs ls hp hw hl; exact hp.elim
  | succ n hB4 =>
    intro xl1 xl2 I L H locs ls hp hw hl
    replace hp : wb_X5_entriesOfAll_4 G Sh a0 K (wp_X5_entriesOfAll_4 G Sh a0 K n) xl1 xl2 I L := hp
    unfold wb_X5_entriesOfAll_4 at hp
    refine lv_iload_n hx hb dX5_entriesOfAll_4 rfl (lv_at hl 2 rfl) ?_
    refine lv_aload_n hx hb dX5_entriesOfAll_5 rfl (lv_at hl 0 rfl) ?_
    refine gf_X5_41 hx hb hts hown hw (h0.1) dX5_entriesOfAll_6 ?_
    refine lv_icmp_ge (tgt := 30) hx hb dX5_entriesOfAll_9 (by decide) (fun hc_1 => ?_) (fun hc_1 => ?_)
    · replace hp := hp.1 hc_1
      refine lv_iload_n hx hb dX5_entriesOfAll_30 rfl (lv_at hl 1 rfl) ?_
      exact r_iret hx hb hr hlocks hw hp dX5_entriesOfAll_31
    · replace hp := hp.2 hc_1
      refine lv_iload_n hx hb dX5_entriesOfAll_12 rfl (lv_at hl 1 rfl) ?_
      refine lv_aload_n hx hb dX5_entriesOfAll_13 rfl (lv_at hl 0 rfl) ?_
      refine gf_X5_26 hx hb hts hown hw (h0.1) dX5_entriesOfAll_14 ?_
      refine lv_iload_n hx hb dX5_entriesOfAll_17 rfl (lv_at hl 2 rfl) ?_
      obtain ⟨hi_2, hp⟩ := hp
      refine r_aaldF hx hb hw (h0.2.2.2.1) rfl hi_2 (b := (a0 + 54 + 4 * (xl2).toNatClampNeg)) (if_pos (vp_lt hi_2)) dX5_entriesOfAll_18 ?_
      refine gf_X5_75 hx hb hts hown hw ((h0.2.2.2.2.2.2.2 _ (vp_lt hi_2)).1) dX5_entriesOfAll_19 ?_
      refine lv_iadd hx hb dX5_entriesOfAll_22 ?_
      refine lv_topi (fun x_3 ex_3 => ?_)
      replace hp := hp x_3 ex_3
      refine lv_istore_n (lv' := [(1, .int x_3), (0, .ref a0), (2, .int xl2)]) hx hb dX5_entriesOfAll_23 rfl hl (by decide) rfl (fun ls hl => ?_)
      obtain ⟨x_4, ex_4⟩ : ∃ z : Int32, z = xl2 + (1 : Int32) := ⟨_, rfl⟩
      replace hp := hp x_4 ex_4
      refine lv_iinc (v := x_4) (lv' := [(2, .int x_4), (1, .int x_3), (0, .ref a0)]) hx hb dX5_entriesOfAll_24 hl (k := 2) rfl (by rw [ex_4]; rfl) (by decide) rfl (fun ls hl => ?_)
      refine lv_goto (tgt := 4) hx hb dX5_entriesOfAll_27 (by decide) ?_
      exact hB4 (x_3) (x_4) _ _ _ _ _ hp hw (lv_sub hl [2, 1, 0] rfl)
set_option maxHeartbeats 4000000 in
set_option maxRecDepth 100000 in
theorem c_X5_entriesOfAll (l : Launch) (G : GX) {Sh : SH} {a0 : Nat} (h0 : isTable G Sh a0) {I : MI} {L : ML} {K : Int32 → MI → ML → Prop} (hp : wp_X5_entriesOfAll G Sh a0 I L K) : CtI l yX5_entriesOfAll (wM yX5_entriesOfAll cX5_entriesOfAll 3 (some .int)) (rmA 0 0) G Sh [.ref a0] I L K := by
  refine ofA (own := RX5) (by decide) rfl (Nat.le_of_ble_eq_true rfl) ?_
  intro p e s m args below meth c ls C hw hl
  obtain ⟨hx, hb, hr, hml, hown, hts, hlocks⟩ := id C
  replace hl : lv_has ls 3 [(0, .ref a0)] := hl
  unfold wp_X5_entriesOfAll at hp
  refine lv_iconst (v := 0) hx hb dX5_entriesOfAll_0 (by decide) ?_
  refine lv_istore_n (lv' := [(1, .int (0 : Int32)), (0, .ref a0)]) hx hb dX5_entriesOfAll_1 rfl hl (by decide) rfl (fun ls hl => ?_)
  refine lv_iconst (v := 0) hx hb dX5_entriesOfAll_2 (by decide) ?_
  refine lv_istore_n (lv' := [(2, .int (0 : Int32)), (1, .int (0 : Int32)), (0, .ref a0)]) hx hb dX5_entriesOfAll_3 rfl hl (by decide) rfl (fun ls hl => ?_)
  obtain ⟨n, hp⟩ := hp
  exact w_X5_entriesOfAll_4 C h0 n ((0 : Int32)) ((0 : Int32)) _ _ _ _ _ hp hw (lv_sub hl [2, 1, 0] rfl)
set_option maxHeartbeats 4000000 in
set_option maxRecDepth 100000 in
theorem c_X5_hasEntry (l : Launch) (G : GX) {Sh : SH} {a0 : Nat} {p1 : Int32} {p2 : Int32} (h0 : isTable G Sh a0) {I : MI} {L : ML} {K : Int32 → MI → ML → Prop} (hp : wp_X5_hasEntry G Sh a0 p1 p2 I L K) : CtI l yX5_hasEntry (wM yX5_hasEntry cX5_hasEntry 3 (some .boolean)) (rmA 1 22) G Sh [.ref a0, .int p1, .int p2] I L K := by
  refine ofA (own := RX5) (by decide) rfl (Nat.le_of_ble_eq_true rfl) ?_
  intro p e s m args below meth c ls C hw hl
  obtain ⟨hx, hb, hr, hml, hown, hts, hlocks⟩ := id C
  replace hl : lv_has ls 3 [(0, .ref a0), (1, .int p1), (2, .int p2)] := hl
  unfold wp_X5_hasEntry at hp
  refine lv_iload_n hx hb dX5_hasEntry_0 rfl (lv_at hl 1 rfl) ?_
  refine lv_iconst (v := 0) hx hb dX5_hasEntry_1 (by decide) ?_
  refine lv_aload_n hx hb dX5_hasEntry_2 rfl (lv_at hl 0 rfl) ?_
  refine gf_X5_41 hx hb hts hown hw (h0.1) dX5_hasEntry_3 ?_
  refine lv_iconst (v := 1) hx hb dX5_hasEntry_6 (by decide) ?_
  refine lv_isub hx hb dX5_hasEntry_7 ?_
  refine r_csNI (As := [.int p1, .int (0 : Int32), .int ((I a0 5) - (1 : Int32))]) ⟨hx, hb, hml, hown, hts⟩ (c_X6_isIn l G  hp) (cw_X5_63 hts hw ⟨Nat.le_of_ble_eq_true rfl, Nat.le_of_ble_eq_true rfl⟩) hw rfl rfl hl.1 (Nat.le_of_ble_eq_true rfl) ⟨Nat.zero_le _, Nat.zero_le _⟩ dX5_hasEntry_8 (fun r_1 I_2 L_3 H locs hp hw => ?_)
  refine lv_if_eq (tgt := 37) hx hb dX5_hasEntry_11 (by decide) (fun hc_4 => ?_) (fun hc_4 => ?_)
  · replace hp := hp.1 hc_4
    refine lv_iconst (v := 0) hx hb dX5_hasEntry_37 (by decide) ?_
    exact r_zret hx hb hr hlocks hw ⟨rfl, hp⟩ dX5_hasEntry_38
  · replace hp := hp.2 hc_4
    refine lv_iload_n hx hb dX5_hasEntry_14 rfl (lv_at hl 2 rfl) ?_
    refine lv_iconst (v := 0) hx hb dX5_hasEntry_15 (by decide) ?_
    refine lv_aload_n hx hb dX5_hasEntry_16 rfl (lv_at hl 0 rfl) ?_
    refine gf_X5_26 hx hb hts hown hw (h0.1) dX5_hasEntry_17 ?_
    refine lv_iload_n hx hb dX5_hasEntry_20 rfl (lv_at hl 1 rfl) ?_
    obtain ⟨hi_5, hp⟩ := hp
    refine r_aaldF hx hb hw (h0.2.2.2.1) rfl hi_5 (b := (a0 + 54 + 4 * (p1).toNatClampNeg)) (if_pos (vp_lt hi_5)) dX5_hasEntry_21 ?_
    refine gf_X5_75 hx hb hts hown hw ((h0.2.2.2.2.2.2.2 _ (vp_lt hi_5)).1) dX5_hasEntry_22 ?_
    refine lv_iconst (v := 1) hx hb dX5_hasEntry_25 (by decide) ?_
    refine lv_isub hx hb dX5_hasEntry_26 ?_
    refine r_csNI (As := [.int p2, .int (0 : Int32), .int ((I_2 (a0 + 54 + 4 * (p1).toNatClampNeg) 3) - (1 : Int32))]) ⟨hx, hb, hml, hown, hts⟩ (c_X6_isIn l G  hp) (cw_X5_63 hts hw ⟨Nat.le_of_ble_eq_true rfl, Nat.le_of_ble_eq_true rfl⟩) hw rfl rfl hl.1 (Nat.le_of_ble_eq_true rfl) ⟨Nat.zero_le _, Nat.zero_le _⟩ dX5_hasEntry_27 (fun r_6 I_7 L_8 H locs hp hw => ?_)
    refine lv_if_eq (tgt := 37) hx hb dX5_hasEntry_30 (by decide) (fun hc_9 => ?_) (fun hc_9 => ?_)
    · replace hp := hp.1 hc_9
      refine lv_iconst (v := 0) hx hb dX5_hasEntry_37 (by decide) ?_
      exact r_zret hx hb hr hlocks hw ⟨rfl, hp⟩ dX5_hasEntry_38
    · replace hp := hp.2 hc_9
      refine lv_iconst (v := 1) hx hb dX5_hasEntry_33 (by decide) ?_
      refine lv_goto (tgt := 38) hx hb dX5_hasEntry_34 (by decide) ?_
      exact r_zret hx hb hr hlocks hw ⟨rfl, hp⟩ dX5_hasEntry_38
set_option maxHeartbeats 4000000 in
set_option maxRecDepth 100000 in
theorem c_X5_openRow (l : Launch) (G : GX) {Sh : SH} {a0 : Nat} (h0 : isTable G Sh a0) {I : MI} {L : ML} {K : Int32 → MI → ML → Prop} (hp : wp_X5_openRow G Sh a0 I L K) : CtI l yX5_openRow (wM yX5_openRow cX5_openRow 1 (some .int)) (rmA 1 21) G Sh [.ref a0] I L K := by
  refine ofA (own := RX5) (by decide) rfl (Nat.le_of_ble_eq_true rfl) ?_
  intro p e s m args below meth c ls C hw hl
  obtain ⟨hx, hb, hr, hml, hown, hts, hlocks⟩ := id C
  replace hl : lv_has ls 1 [(0, .ref a0)] := hl
  unfold wp_X5_openRow at hp
  refine lv_aload_n hx hb dX5_openRow_0 rfl (lv_at hl 0 rfl) ?_
  refine r_cvI (As := []) ⟨hx, hb, hml, hown, hts⟩ (c_X5_isAtRest l G (h0) hp) (cw_X5_67 hts ⟨Nat.le_of_ble_eq_true rfl, Nat.le_of_ble_eq_true rfl⟩) hw (hw.recv (h0.1) rfl rfl) rfl rfl hl.1 (Nat.le_of_ble_eq_true rfl) ⟨Nat.zero_le _, Nat.zero_le _⟩ dX5_openRow_1 (fun r_1 I_2 L_3 H locs hp hw => ?_)
  refine lv_if_ne (tgt := 10) hx hb dX5_openRow_4 (by decide) (fun hc_4 => ?_) (fun hc_4 => ?_)
  · replace hp := hp.2 hc_4
    refine lv_aload_n hx hb dX5_openRow_10 rfl (lv_at hl 0 rfl) ?_
    refine gf_X5_41 hx hb hts hown hw (h0.1) dX5_openRow_11 ?_
    refine lv_bipush (v := 20) hx hb dX5_openRow_14 (by decide) ?_
    refine lv_icmp_lt (tgt := 22) hx hb dX5_openRow_16 (by decide) (fun hc_5 => ?_) (fun hc_5 => ?_)
    · replace hp := hp.1 hc_5
      refine lv_aload_n hx hb dX5_openRow_22 rfl (lv_at hl 0 rfl) ?_
      refine lv_iconst (v := 1) hx hb dX5_openRow_23 (by decide) ?_
      refine pf_X5_51 hx hb hts hown hw (h0.1) (Or.inr rfl) dX5_openRow_24 (fun I_6 H locs eI_6 hw => ?_)
      replace hp := hp I_6 eI_6
      refine lv_aload_n hx hb dX5_openRow_27 rfl (lv_at hl 0 rfl) ?_
      refine lv_dup hx hb dX5_openRow_28 rfl ?_
      refine gf_X5_41 hx hb hts hown hw (h0.1) dX5_openRow_29 ?_
      refine lv_iconst (v := 1) hx hb dX5_openRow_32 (by decide) ?_
      refine lv_iadd hx hb dX5_openRow_33 ?_
      refine pf_X5_41 hx hb hts hown hw (h0.1) dX5_openRow_34 (fun I_7 H locs eI_7 hw => ?_)
      replace hp := hp I_7 eI_7
      refine lv_aload_n hx hb dX5_openRow_37 rfl (lv_at hl 0 rfl) ?_
      refine lv_aload_n hx hb dX5_openRow_38 rfl (lv_at hl 0 rfl) ?_
      refine gf_X5_41 hx hb hts hown hw (h0.1) dX5_openRow_39 ?_
      refine lv_iconst (v := 1) hx hb dX5_openRow_42 (by decide) ?_
      refine lv_isub hx hb dX5_openRow_43 ?_
      refine r_cvV (As := [.int ((I_7 a0 5) - (1 : Int32))]) ⟨hx, hb, hml, hown, hts⟩ (c_X5_putItem l G (h0) hp) (cw_X5_71 hts ⟨Nat.le_of_ble_eq_true rfl, Nat.le_of_ble_eq_true rfl⟩) hw (hw.recv (h0.1) rfl rfl) rfl rfl hl.1 (Nat.le_of_ble_eq_true rfl) ⟨Nat.zero_le _, Nat.zero_le _⟩ dX5_openRow_44 (fun I_9 L_10 H locs hp hw => ?_)
      refine lv_aload_n hx hb dX5_openRow_47 rfl (lv_at hl 0 rfl) ?_
      refine gf_X5_41 hx hb hts hown hw (h0.1) dX5_openRow_48 ?_
      refine lv_iconst (v := 1) hx hb dX5_openRow_51 (by decide) ?_
      refine lv_isub hx hb dX5_openRow_52 ?_
      exact r_iret hx hb hr hlocks hw hp dX5_openRow_53
    · replace hp := hp.2 hc_5
      refine lv_bipush (v := (-4)) hx hb dX5_openRow_19 (by decide) ?_
      exact r_iret hx hb hr hlocks hw hp dX5_openRow_21
  · replace hp := hp.1 hc_4
    refine lv_bipush (v := (-3)) hx hb dX5_openRow_7 (by decide) ?_
    exact r_iret hx hb hr hlocks hw hp dX5_openRow_9
