set_option maxHeartbeats 4000000 in
set_option maxRecDepth 100000 in
theorem c_X5_refuseGlue (l : Launch) (G : GX) {Sh : SH} {a0 : Nat} {p1 : Int32} (h0 : isTable G Sh a0) {I : MI} {L : ML} {K : Int32 → MI → ML → Prop} (hp : wp_X5_refuseGlue G Sh a0 p1 I L K) : CtI l yX5_refuseGlue (wM yX5_refuseGlue cX5_refuseGlue 2 (some .int)) (rmA 1 22) G Sh [.ref a0, .int p1] I L K := by
  refine ofA (own := RX5) (by decide) rfl (Nat.le_of_ble_eq_true rfl) ?_
  intro p e s m args below meth c ls C hw hl
  obtain ⟨hx, hb, hr, hml, hown, hts, hlocks⟩ := id C
  replace hl : lv_has ls 2 [(0, .ref a0), (1, .int p1)] := hl
  unfold wp_X5_refuseGlue at hp
  refine lv_aload_n hx hb dX5_refuseGlue_0 rfl (lv_at hl 0 rfl) ?_
  refine gf_X5_12 hx hb hts hown hw (h0.1) dX5_refuseGlue_1 ?_
  refine gf_X5_57 hx hb hts hown hw (h0.2.1.1) dX5_refuseGlue_4 ?_
  refine lv_if_ne (tgt := 13) hx hb dX5_refuseGlue_7 (by decide) (fun hc_1 => ?_) (fun hc_1 => ?_)
  · replace hp := hp.2 hc_1
    refine lv_iload_n hx hb dX5_refuseGlue_13 rfl (lv_at hl 1 rfl) ?_
    refine lv_iconst (v := 0) hx hb dX5_refuseGlue_14 (by decide) ?_
    refine lv_aload_n hx hb dX5_refuseGlue_15 rfl (lv_at hl 0 rfl) ?_
    refine gf_X5_12 hx hb hts hown hw (h0.1) dX5_refuseGlue_16 ?_
    refine gf_X5_60 hx hb hts hown hw (h0.2.1.1) dX5_refuseGlue_19 ?_
    refine r_csNI (As := [.int p1, .int (0 : Int32), .int (I (a0 + 1) 5)]) ⟨hx, hb, hml, hown, hts⟩ (c_X6_isIn l G  hp) (cw_X5_63 hts hw ⟨Nat.le_of_ble_eq_true rfl, Nat.le_of_ble_eq_true rfl⟩) hw rfl rfl hl.1 (Nat.le_of_ble_eq_true rfl) ⟨Nat.zero_le _, Nat.zero_le _⟩ dX5_refuseGlue_22 (fun r_2 I_3 L_4 H locs hp hw => ?_)
    refine lv_if_eq (tgt := 32) hx hb dX5_refuseGlue_25 (by decide) (fun hc_5 => ?_) (fun hc_5 => ?_)
    · replace hp := hp.1 hc_5
      refine lv_iconst (v := (-1)) hx hb dX5_refuseGlue_32 (by decide) ?_
      exact r_iret hx hb hr hlocks hw hp dX5_refuseGlue_33
    · replace hp := hp.2 hc_5
      refine lv_iconst (v := 0) hx hb dX5_refuseGlue_28 (by decide) ?_
      refine lv_goto (tgt := 33) hx hb dX5_refuseGlue_29 (by decide) ?_
      exact r_iret hx hb hr hlocks hw hp dX5_refuseGlue_33
  · replace hp := hp.1 hc_1
    refine lv_bipush (v := (-3)) hx hb dX5_refuseGlue_10 (by decide) ?_
    exact r_iret hx hb hr hlocks hw hp dX5_refuseGlue_12
set_option maxHeartbeats 4000000 in
set_option maxRecDepth 100000 in
theorem c_X5_tell (l : Launch) (G : GX) {Sh : SH} {a0 : Nat} {p1 : Int32} (h0 : isTable G Sh a0) {I : MI} {L : ML} {K : Int64 → MI → ML → Prop} (hp : wp_X5_tell G Sh a0 p1 I L K) : CtL l yX5_tell (wM yX5_tell cX5_tell 2 (some .long)) (rmA 1 22) G Sh [.ref a0, .int p1] I L K := by
  refine ofA (own := RX5) (by decide) rfl (Nat.le_of_ble_eq_true rfl) ?_
  intro p e s m args below meth c ls C hw hl
  obtain ⟨hx, hb, hr, hml, hown, hts, hlocks⟩ := id C
  replace hl : lv_has ls 2 [(0, .ref a0), (1, .int p1)] := hl
  unfold wp_X5_tell at hp
  refine lv_iload_n hx hb dX5_tell_0 rfl (lv_at hl 1 rfl) ?_
  by_cases hc_1 : p1 = (0 : Int32)
  · replace hp := hp.1 hc_1
    refine lv_tableIn (off := 35) (tgt := 36) hx hb dX5_tell_1 (by rw [hc_1]; decide) (by rw [hc_1]; decide) (by rw [hc_1]; rfl) (by decide) ?_
    refine lv_aload_n hx hb dX5_tell_36 rfl (lv_at hl 0 rfl) ?_
    refine gf_X5_12 hx hb hts hown hw (h0.1) dX5_tell_37 ?_
    refine gf_X5_60 hx hb hts hown hw (h0.2.1.1) dX5_tell_40 ?_
    refine lv_i2l hx hb dX5_tell_43 rfl ?_
    exact r_lret hx hb hr hlocks hw hp dX5_tell_44
  replace hp := hp.2 hc_1
  by_cases hc_2 : p1 = (1 : Int32)
  · replace hp := hp.1 hc_2
    refine lv_tableIn (off := 44) (tgt := 45) hx hb dX5_tell_1 (by rw [hc_2]; decide) (by rw [hc_2]; decide) (by rw [hc_2]; rfl) (by decide) ?_
    refine lv_aload_n hx hb dX5_tell_45 rfl (lv_at hl 0 rfl) ?_
    refine gf_X5_12 hx hb hts hown hw (h0.1) dX5_tell_46 ?_
    refine gf_X5_97 hx hb hts hown hw (h0.2.1.1) dX5_tell_49 ?_
    refine lv_i2l hx hb dX5_tell_52 rfl ?_
    exact r_lret hx hb hr hlocks hw hp dX5_tell_53
  replace hp := hp.2 hc_2
  by_cases hc_3 : p1 = (2 : Int32)
  · replace hp := hp.1 hc_3
    refine lv_tableIn (off := 53) (tgt := 54) hx hb dX5_tell_1 (by rw [hc_3]; decide) (by rw [hc_3]; decide) (by rw [hc_3]; rfl) (by decide) ?_
    refine lv_aload_n hx hb dX5_tell_54 rfl (lv_at hl 0 rfl) ?_
    refine gf_X5_41 hx hb hts hown hw (h0.1) dX5_tell_55 ?_
    refine lv_i2l hx hb dX5_tell_58 rfl ?_
    exact r_lret hx hb hr hlocks hw hp dX5_tell_59
  replace hp := hp.2 hc_3
  by_cases hc_4 : p1 = (3 : Int32)
  · replace hp := hp.1 hc_4
    refine lv_tableIn (off := 59) (tgt := 60) hx hb dX5_tell_1 (by rw [hc_4]; decide) (by rw [hc_4]; decide) (by rw [hc_4]; rfl) (by decide) ?_
    refine lv_aload_n hx hb dX5_tell_60 rfl (lv_at hl 0 rfl) ?_
    refine r_cvI (As := []) ⟨hx, hb, hml, hown, hts⟩ (c_X5_entriesOfAll l G (h0) hp) (cw_X5_100 hts ⟨Nat.le_of_ble_eq_true rfl, Nat.le_of_ble_eq_true rfl⟩) hw (hw.recv (h0.1) rfl rfl) rfl rfl hl.1 (Nat.le_of_ble_eq_true rfl) ⟨Nat.zero_le _, Nat.zero_le _⟩ dX5_tell_61 (fun r_5 I_6 L_7 H locs hp hw => ?_)
    refine lv_i2l hx hb dX5_tell_64 rfl ?_
    exact r_lret hx hb hr hlocks hw hp dX5_tell_65
  replace hp := hp.2 hc_4
  by_cases hc_8 : p1 = (4 : Int32)
  · replace hp := hp.1 hc_8
    refine lv_tableIn (off := 65) (tgt := 66) hx hb dX5_tell_1 (by rw [hc_8]; decide) (by rw [hc_8]; decide) (by rw [hc_8]; rfl) (by decide) ?_
    refine lv_aload_n hx hb dX5_tell_66 rfl (lv_at hl 0 rfl) ?_
    refine gf_X5_51 hx hb hts hown hw (h0.1) dX5_tell_67 ?_
    refine lv_if_eq (tgt := 77) hx hb dX5_tell_70 (by decide) (fun hc_9 => ?_) (fun hc_9 => ?_)
    · replace hp := hp.1 hc_9
      refine lv_lconst (v := 0) hx hb dX5_tell_77 (by decide) ?_
      exact r_lret hx hb hr hlocks hw hp dX5_tell_78
    · replace hp := hp.2 hc_9
      refine lv_lconst (v := 1) hx hb dX5_tell_73 (by decide) ?_
      refine lv_goto (tgt := 78) hx hb dX5_tell_74 (by decide) ?_
      exact r_lret hx hb hr hlocks hw hp dX5_tell_78
  replace hp := hp.2 hc_8
  refine lv_tableOut (tgt := 79) hx hb dX5_tell_1 (by have q0 := lv_neT (a := 0) hc_1 rfl; have q1 := lv_neT (a := 1) hc_2 rfl; have q2 := lv_neT (a := 2) hc_3 rfl; have q3 := lv_neT (a := 3) hc_4 rfl; have q4 := lv_neT (a := 4) hc_8 rfl; omega) (by decide) ?_
  refine lv_aload_n hx hb dX5_tell_79 rfl (lv_at hl 0 rfl) ?_
  refine gf_X5_12 hx hb hts hown hw (h0.1) dX5_tell_80 ?_
  refine gf_X5_103 hx hb hts hown hw (h0.2.1.1) dX5_tell_83 ?_
  refine lv_i2l hx hb dX5_tell_86 rfl ?_
  exact r_lret hx hb hr hlocks hw hp dX5_tell_87
set_option maxHeartbeats 4000000 in
set_option maxRecDepth 100000 in
theorem c_X6_find (l : Launch) (G : GX) {Sh : SH} {a0 : Nat} {F : Nat → Option Nat} {p1 : Int32} (h0 : isX G Sh a0 F) {I : MI} {L : ML} {K : Option Nat → MI → ML → Prop} (hp : wp_X6_find G Sh a0 F p1 I L K) : CtQ l yX6_find (wM yX6_find cX6_find 2 (some (.object "AlignRows$Table"))) (rmA 1 22) G Sh [.ref a0, .int p1] I L K := by
  refine ofA (own := RX6) (by decide) rfl (Nat.le_of_ble_eq_true rfl) ?_
  intro p e s m args below meth c ls C hw hl
  obtain ⟨hx, hb, hr, hml, hown, hts, hlocks⟩ := id C
  replace hl : lv_has ls 2 [(0, .ref a0), (1, .int p1)] := hl
  unfold wp_X6_find at hp
  refine lv_iload_n hx hb dX6_find_0 rfl (lv_at hl 1 rfl) ?_
  refine lv_iconst (v := 0) hx hb dX6_find_1 (by decide) ?_
  refine lv_aload_n hx hb dX6_find_2 rfl (lv_at hl 0 rfl) ?_
  refine gf_X6_15 hx hb hts hown hw (h0.1) dX6_find_3 ?_
  refine lv_iconst (v := 1) hx hb dX6_find_6 (by decide) ?_
  refine lv_isub hx hb dX6_find_7 ?_
  refine r_csI (As := [.int p1, .int (0 : Int32), .int ((I a0 1) - (1 : Int32))]) ⟨hx, hb, hml, hown, hts⟩ (c_X6_isIn l G  hp) (cw_X6_42 hts ⟨Nat.le_of_ble_eq_true rfl, Nat.le_of_ble_eq_true rfl⟩) hw rfl rfl hl.1 (Nat.le_of_ble_eq_true rfl) ⟨Nat.zero_le _, Nat.zero_le _⟩ dX6_find_8 (fun r_1 I_2 L_3 H locs hp hw => ?_)
  refine lv_if_eq (tgt := 23) hx hb dX6_find_11 (by decide) (fun hc_4 => ?_) (fun hc_4 => ?_)
  · replace hp := hp.1 hc_4
    refine lv_null hx hb dX6_find_23 ?_
    exact r_qret (r := none) hx hb hr hlocks hw hp dX6_find_24
  · replace hp := hp.2 hc_4
    refine lv_aload_n hx hb dX6_find_14 rfl (lv_at hl 0 rfl) ?_
    refine gf_X6_11 hx hb hts hown hw (h0.1) dX6_find_15 ?_
    refine lv_iload_n hx hb dX6_find_18 rfl (lv_at hl 1 rfl) ?_
    obtain ⟨hi_5, hp⟩ := hp
    refine r_aald hx hb hw (h0.2) rfl hi_5 dX6_find_19 ?_
    refine lv_goto (tgt := 24) hx hb dX6_find_20 (by decide) ?_
    exact r_qret (r := (F (p1).toNatClampNeg)) hx hb hr hlocks hw hp dX6_find_24
set_option maxHeartbeats 4000000 in
set_option maxRecDepth 100000 in
theorem c_X6_between (l : Launch) (G : GX) {Sh : SH} {a0 : Nat} {F : Nat → Option Nat} {p1 : Int32} (h0 : isX G Sh a0 F) {I : MI} {L : ML} {K : Int32 → MI → ML → Prop} (hp : wp_X6_between G Sh a0 F p1 I L K) : CtI l yX6_between (wM yX6_between cX6_between 3 (some .int)) (rmA 2 43) G Sh [.ref a0, .int p1] I L K := by
  refine ofA (own := RX6) (by decide) rfl (Nat.le_of_ble_eq_true rfl) ?_
  intro p e s m args below meth c ls C hw hl
  obtain ⟨hx, hb, hr, hml, hown, hts, hlocks⟩ := id C
  replace hl : lv_has ls 3 [(0, .ref a0), (1, .int p1)] := hl
  unfold wp_X6_between at hp
  refine lv_aload_n hx hb dX6_between_0 rfl (lv_at hl 0 rfl) ?_
  refine lv_iload_n hx hb dX6_between_1 rfl (lv_at hl 1 rfl) ?_
  refine r_cvQ (As := [.int p1]) ⟨hx, hb, hml, hown, hts⟩ (c_X6_find l G (h0) hp) (cw_X6_20 hts ⟨Nat.le_of_ble_eq_true rfl, Nat.le_of_ble_eq_true rfl⟩) hw (hw.recv (h0.1) rfl rfl) rfl rfl hl.1 (Nat.le_of_ble_eq_true rfl) ⟨Nat.zero_le _, Nat.zero_le _⟩ dX6_between_2 (fun r_1 I_2 L_3 H locs hp hw => ?_)
  rcases hp with ⟨rfl, hp⟩ | ⟨t_4, rfl, ht_4, hp⟩
  · refine lv_astore_nN (lv' := [(2, .null), (0, .ref a0), (1, .int p1)]) hx hb dX6_between_5 rfl hl (by decide) rfl (fun ls hl => ?_)
    refine lv_aload_nN hx hb dX6_between_6 rfl (lv_at hl 0 rfl) ?_
    refine lv_ifnonnullN hx hb dX6_between_7 ?_
    refine lv_iconst (v := (-1)) hx hb dX6_between_10 (by decide) ?_
    exact r_iret hx hb hr hlocks hw hp dX6_between_11
  · refine lv_astore_n (lv' := [(2, .ref t_4), (0, .ref a0), (1, .int p1)]) hx hb dX6_between_5 rfl hl (by decide) rfl (fun ls hl => ?_)
    refine lv_aload_n hx hb dX6_between_6 rfl (lv_at hl 0 rfl) ?_
    refine lv_ifnonnull (tgt := 12) hx hb dX6_between_7 (by decide) ?_
    refine lv_aload_n hx hb dX6_between_12 rfl (lv_at hl 0 rfl) ?_
    refine r_cvI (As := []) ⟨hx, hb, hml, hown, hts⟩ (c_X5_addBetween l G (ht_4) hp) (cw_X6_89 hts ⟨Nat.le_of_ble_eq_true rfl, Nat.le_of_ble_eq_true rfl⟩) hw (hw.recv (ht_4.1) rfl rfl) rfl rfl hl.1 (Nat.le_of_ble_eq_true rfl) ⟨Nat.zero_le _, Nat.zero_le _⟩ dX6_between_13 (fun r_5 I_6 L_7 H locs hp hw => ?_)
    exact r_iret hx hb hr hlocks hw hp dX6_between_16
set_option maxHeartbeats 4000000 in
set_option maxRecDepth 100000 in
theorem c_X6_end (l : Launch) (G : GX) {Sh : SH} {a0 : Nat} {F : Nat → Option Nat} {p1 : Int32} (h0 : isX G Sh a0 F) {I : MI} {L : ML} {K : Int32 → MI → ML → Prop} (hp : wp_X6_end G Sh a0 F p1 I L K) : CtI l yX6_end (wM yX6_end cX6_end 3 (some .int)) (rmA 2 43) G Sh [.ref a0, .int p1] I L K := by
  refine ofA (own := RX6) (by decide) rfl (Nat.le_of_ble_eq_true rfl) ?_
  intro p e s m args below meth c ls C hw hl
  obtain ⟨hx, hb, hr, hml, hown, hts, hlocks⟩ := id C
  replace hl : lv_has ls 3 [(0, .ref a0), (1, .int p1)] := hl
  unfold wp_X6_end at hp
  refine lv_aload_n hx hb dX6_end_0 rfl (lv_at hl 0 rfl) ?_
  refine lv_iload_n hx hb dX6_end_1 rfl (lv_at hl 1 rfl) ?_
  refine r_cvQ (As := [.int p1]) ⟨hx, hb, hml, hown, hts⟩ (c_X6_find l G (h0) hp) (cw_X6_20 hts ⟨Nat.le_of_ble_eq_true rfl, Nat.le_of_ble_eq_true rfl⟩) hw (hw.recv (h0.1) rfl rfl) rfl rfl hl.1 (Nat.le_of_ble_eq_true rfl) ⟨Nat.zero_le _, Nat.zero_le _⟩ dX6_end_2 (fun r_1 I_2 L_3 H locs hp hw => ?_)
  rcases hp with ⟨rfl, hp⟩ | ⟨t_4, rfl, ht_4, hp⟩
  · refine lv_astore_nN (lv' := [(2, .null), (0, .ref a0), (1, .int p1)]) hx hb dX6_end_5 rfl hl (by decide) rfl (fun ls hl => ?_)
    refine lv_aload_nN hx hb dX6_end_6 rfl (lv_at hl 0 rfl) ?_
    refine lv_ifnonnullN hx hb dX6_end_7 ?_
    refine lv_iconst (v := (-1)) hx hb dX6_end_10 (by decide) ?_
    exact r_iret hx hb hr hlocks hw hp dX6_end_11
  · refine lv_astore_n (lv' := [(2, .ref t_4), (0, .ref a0), (1, .int p1)]) hx hb dX6_end_5 rfl hl (by decide) rfl (fun ls hl => ?_)
    refine lv_aload_n hx hb dX6_end_6 rfl (lv_at hl 0 rfl) ?_
    refine lv_ifnonnull (tgt := 12) hx hb dX6_end_7 (by decide) ?_
    refine lv_aload_n hx hb dX6_end_12 rfl (lv_at hl 0 rfl) ?_
    refine r_cvI (As := []) ⟨hx, hb, hml, hown, hts⟩ (c_X5_closeRow l G (ht_4) hp) (cw_X6_86 hts ⟨Nat.le_of_ble_eq_true rfl, Nat.le_of_ble_eq_true rfl⟩) hw (hw.recv (ht_4.1) rfl rfl) rfl rfl hl.1 (Nat.le_of_ble_eq_true rfl) ⟨Nat.zero_le _, Nat.zero_le _⟩ dX6_end_13 (fun r_5 I_6 L_7 H locs hp hw => ?_)
    exact r_iret hx hb hr hlocks hw hp dX6_end_16
set_option maxHeartbeats 4000000 in
set_option maxRecDepth 100000 in
theorem c_X6_entry (l : Launch) (G : GX) {Sh : SH} {a0 : Nat} {F : Nat → Option Nat} {p1 : Int32} {p2 : Int32} {p3 : Int32} {p4 : Int32} (h0 : isX G Sh a0 F) {I : MI} {L : ML} {K : Int32 → MI → ML → Prop} (hp : wp_X6_entry G Sh a0 F p1 p2 p3 p4 I L K) : CtI l yX6_entry (wM yX6_entry cX6_entry 6 (some .int)) (rmA 3 70) G Sh [.ref a0, .int p1, .int p2, .int p3, .int p4] I L K := by
  refine ofA (own := RX6) (by decide) rfl (Nat.le_of_ble_eq_true rfl) ?_
  intro p e s m args below meth c ls C hw hl
  obtain ⟨hx, hb, hr, hml, hown, hts, hlocks⟩ := id C
  replace hl : lv_has ls 6 [(0, .ref a0), (1, .int p1), (2, .int p2), (3, .int p3), (4, .int p4)] := hl
  unfold wp_X6_entry at hp
  refine lv_aload_n hx hb dX6_entry_0 rfl (lv_at hl 0 rfl) ?_
  refine lv_iload_n hx hb dX6_entry_1 rfl (lv_at hl 1 rfl) ?_
  refine r_cvQ (As := [.int p1]) ⟨hx, hb, hml, hown, hts⟩ (c_X6_find l G (h0) hp) (cw_X6_20 hts ⟨Nat.le_of_ble_eq_true rfl, Nat.le_of_ble_eq_true rfl⟩) hw (hw.recv (h0.1) rfl rfl) rfl rfl hl.1 (Nat.le_of_ble_eq_true rfl) ⟨Nat.zero_le _, Nat.zero_le _⟩ dX6_entry_2 (fun r_1 I_2 L_3 H locs hp hw => ?_)
  rcases hp with ⟨rfl, hp⟩ | ⟨t_4, rfl, ht_4, hp⟩
  · refine lv_astoreN (lv' := [(5, .null), (0, .ref a0), (1, .int p1), (2, .int p2), (3, .int p3), (4, .int p4)]) hx hb dX6_entry_5 hl (by decide) rfl (fun ls hl => ?_)
    refine lv_aloadN hx hb dX6_entry_7 (lv_at hl 0 rfl) ?_
    refine lv_ifnonnullN hx hb dX6_entry_9 ?_
    refine lv_iconst (v := (-1)) hx hb dX6_entry_12 (by decide) ?_
    exact r_iret hx hb hr hlocks hw hp dX6_entry_13
  · refine lv_astore (lv' := [(5, .ref t_4), (0, .ref a0), (1, .int p1), (2, .int p2), (3, .int p3), (4, .int p4)]) hx hb dX6_entry_5 hl (by decide) rfl (fun ls hl => ?_)
    refine lv_aload hx hb dX6_entry_7 (lv_at hl 0 rfl) ?_
    refine lv_ifnonnull (tgt := 14) hx hb dX6_entry_9 (by decide) ?_
    refine lv_aload hx hb dX6_entry_14 (lv_at hl 0 rfl) ?_
    refine gf_X6_63 hx hb hts hown hw (ht_4.1) dX6_entry_16 ?_
    refine lv_if_ne (tgt := 25) hx hb dX6_entry_19 (by decide) (fun hc_5 => ?_) (fun hc_5 => ?_)
    · replace hp := hp.2 hc_5
      refine lv_iload_n hx hb dX6_entry_25 rfl (lv_at hl 3 rfl) ?_
      refine lv_iconst (v := 0) hx hb dX6_entry_26 (by decide) ?_
      refine lv_ldc hx hb hown (hts _ k_374) dX6_entry_27 ?_
      refine r_csI (As := [.int p2, .int (0 : Int32), .int (100000 : Int32)]) ⟨hx, hb, hml, hown, hts⟩ (c_X6_isIn l G  hp) (cw_X6_42 hts ⟨Nat.le_of_ble_eq_true rfl, Nat.le_of_ble_eq_true rfl⟩) hw rfl rfl hl.1 (Nat.le_of_ble_eq_true rfl) ⟨Nat.zero_le _, Nat.zero_le _⟩ dX6_entry_29 (fun r_6 I_7 L_8 H locs hp hw => ?_)
      refine lv_if_ne (tgt := 38) hx hb dX6_entry_32 (by decide) (fun hc_9 => ?_) (fun hc_9 => ?_)
      · replace hp := hp.2 hc_9
        refine lv_aload hx hb dX6_entry_38 (lv_at hl 0 rfl) ?_
        refine lv_iload_n hx hb dX6_entry_40 rfl (lv_at hl 3 rfl) ?_
        refine lv_iload_n hx hb dX6_entry_41 rfl (lv_at hl 4 rfl) ?_
        refine lv_iload hx hb dX6_entry_42 (lv_at hl 5 rfl) ?_
        refine r_cvI (As := [.int p2, .int p3, .int p4]) ⟨hx, hb, hml, hown, hts⟩ (c_X5_addEntry l G (ht_4) hp) (cw_X6_68 hts ⟨Nat.le_of_ble_eq_true rfl, Nat.le_of_ble_eq_true rfl⟩) hw (hw.recv (ht_4.1) rfl rfl) rfl rfl hl.1 (Nat.le_of_ble_eq_true rfl) ⟨Nat.zero_le _, Nat.zero_le _⟩ dX6_entry_44 (fun r_10 I_11 L_12 H locs hp hw => ?_)
        exact r_iret hx hb hr hlocks hw hp dX6_entry_47
      · replace hp := hp.1 hc_9
        refine lv_bipush (v := (-2)) hx hb dX6_entry_35 (by decide) ?_
        exact r_iret hx hb hr hlocks hw hp dX6_entry_37
    · replace hp := hp.1 hc_5
      refine lv_bipush (v := (-3)) hx hb dX6_entry_22 (by decide) ?_
      exact r_iret hx hb hr hlocks hw hp dX6_entry_24
set_option maxHeartbeats 4000000 in
set_option maxRecDepth 100000 in
theorem c_X6_glue (l : Launch) (G : GX) {Sh : SH} {a0 : Nat} {F : Nat → Option Nat} {p1 : Int32} {p2 : Int32} {p3 : Int32} {p4 : Int32} {p5 : Int32} (h0 : isX G Sh a0 F) {I : MI} {L : ML} {K : Int32 → MI → ML → Prop} (hp : wp_X6_glue G Sh a0 F p1 p2 p3 p4 p5 I L K) : CtI l yX6_glue (wM yX6_glue cX6_glue 8 (some .int)) (rmA 2 43) G Sh [.ref a0, .int p1, .int p2, .int p3, .int p4, .int p5] I L K := by
  refine ofA (own := RX6) (by decide) rfl (Nat.le_of_ble_eq_true rfl) ?_
  intro p e s m args below meth c ls C hw hl
  obtain ⟨hx, hb, hr, hml, hown, hts, hlocks⟩ := id C
  replace hl : lv_has ls 8 [(0, .ref a0), (1, .int p1), (2, .int p2), (3, .int p3), (4, .int p4), (5, .int p5)] := hl
  unfold wp_X6_glue at hp
  refine lv_aload_n hx hb dX6_glue_0 rfl (lv_at hl 0 rfl) ?_
  refine lv_iload_n hx hb dX6_glue_1 rfl (lv_at hl 1 rfl) ?_
  refine r_cvQ (As := [.int p1]) ⟨hx, hb, hml, hown, hts⟩ (c_X6_find l G (h0) hp) (cw_X6_20 hts ⟨Nat.le_of_ble_eq_true rfl, Nat.le_of_ble_eq_true rfl⟩) hw (hw.recv (h0.1) rfl rfl) rfl rfl hl.1 (Nat.le_of_ble_eq_true rfl) ⟨Nat.zero_le _, Nat.zero_le _⟩ dX6_glue_2 (fun r_1 I_2 L_3 H locs hp hw => ?_)
  rcases hp with ⟨rfl, hp⟩ | ⟨t_4, rfl, ht_4, hp⟩
  · refine lv_astoreN (lv' := [(6, .null), (0, .ref a0), (1, .int p1), (2, .int p2), (3, .int p3), (4, .int p4), (5, .int p5)]) hx hb dX6_glue_5 hl (by decide) rfl (fun ls hl => ?_)
    refine lv_aloadN hx hb dX6_glue_7 (lv_at hl 0 rfl) ?_
    refine lv_ifnonnullN hx hb dX6_glue_9 ?_
    refine lv_iconst (v := (-1)) hx hb dX6_glue_12 (by decide) ?_
    exact r_iret hx hb hr hlocks hw hp dX6_glue_13
  · refine lv_astore (lv' := [(6, .ref t_4), (0, .ref a0), (1, .int p1), (2, .int p2), (3, .int p3), (4, .int p4), (5, .int p5)]) hx hb dX6_glue_5 hl (by decide) rfl (fun ls hl => ?_)
    refine lv_aload hx hb dX6_glue_7 (lv_at hl 0 rfl) ?_
    refine lv_ifnonnull (tgt := 14) hx hb dX6_glue_9 (by decide) ?_
    refine lv_aload hx hb dX6_glue_14 (lv_at hl 0 rfl) ?_
    refine lv_iload_n hx hb dX6_glue_16 rfl (lv_at hl 3 rfl) ?_
    refine r_cvI (As := [.int p2]) ⟨hx, hb, hml, hown, hts⟩ (c_X5_refuseGlue l G (ht_4) hp) (cw_X6_38 hts ⟨Nat.le_of_ble_eq_true rfl, Nat.le_of_ble_eq_true rfl⟩) hw (hw.recv (ht_4.1) rfl rfl) rfl rfl hl.1 (Nat.le_of_ble_eq_true rfl) ⟨Nat.zero_le _, Nat.zero_le _⟩ dX6_glue_17 (fun r_5 I_6 L_7 H locs hp hw => ?_)
    refine lv_istore (lv' := [(7, .int r_5), (6, .ref t_4), (0, .ref a0), (1, .int p1), (2, .int p2), (3, .int p3), (4, .int p4), (5, .int p5)]) hx hb dX6_glue_20 hl (by decide) rfl (fun ls hl => ?_)
    refine lv_iload hx hb dX6_glue_22 (lv_at hl 0 rfl) ?_
    refine lv_if_eq (tgt := 30) hx hb dX6_glue_24 (by decide) (fun hc_8 => ?_) (fun hc_8 => ?_)
    · replace hp := hp.1 hc_8
      refine lv_iload_n hx hb dX6_glue_30 rfl (lv_at hl 5 rfl) ?_
      refine lv_sipush (v := (-10000)) hx hb dX6_glue_31 (by decide) ?_
      refine lv_sipush (v := 10000) hx hb dX6_glue_34 (by decide) ?_
      refine r_csI (As := [.int p3, .int (-10000 : Int32), .int (10000 : Int32)]) ⟨hx, hb, hml, hown, hts⟩ (c_X6_isIn l G  hp) (cw_X6_42 hts ⟨Nat.le_of_ble_eq_true rfl, Nat.le_of_ble_eq_true rfl⟩) hw rfl rfl hl.1 (Nat.le_of_ble_eq_true rfl) ⟨Nat.zero_le _, Nat.zero_le _⟩ dX6_glue_37 (fun r_9 I_10 L_11 H locs hp hw => ?_)
      refine lv_if_eq (tgt := 65) hx hb dX6_glue_40 (by decide) (fun hc_12 => ?_) (fun hc_12 => ?_)
      · replace hp := hp.1 hc_12
        refine lv_bipush (v := (-2)) hx hb dX6_glue_65 (by decide) ?_
        exact r_iret hx hb hr hlocks hw hp dX6_glue_67
      · replace hp := hp.2 hc_12
        refine lv_iload hx hb dX6_glue_43 (lv_at hl 6 rfl) ?_
        refine lv_iconst (v := 0) hx hb dX6_glue_45 (by decide) ?_
        refine lv_sipush (v := 10000) hx hb dX6_glue_46 (by decide) ?_
        refine r_csI (As := [.int p4, .int (0 : Int32), .int (10000 : Int32)]) ⟨hx, hb, hml, hown, hts⟩ (c_X6_isIn l G  hp) (cw_X6_42 hts ⟨Nat.le_of_ble_eq_true rfl, Nat.le_of_ble_eq_true rfl⟩) hw rfl rfl hl.1 (Nat.le_of_ble_eq_true rfl) ⟨Nat.zero_le _, Nat.zero_le _⟩ dX6_glue_49 (fun r_13 I_14 L_15 H locs hp hw => ?_)
        refine lv_if_eq (tgt := 65) hx hb dX6_glue_52 (by decide) (fun hc_16 => ?_) (fun hc_16 => ?_)
        · replace hp := hp.1 hc_16
          refine lv_bipush (v := (-2)) hx hb dX6_glue_65 (by decide) ?_
          exact r_iret hx hb hr hlocks hw hp dX6_glue_67
        · replace hp := hp.2 hc_16
          refine lv_iload hx hb dX6_glue_55 (lv_at hl 7 rfl) ?_
          refine lv_iconst (v := 0) hx hb dX6_glue_57 (by decide) ?_
          refine lv_iconst (v := 3) hx hb dX6_glue_58 (by decide) ?_
          refine r_csI (As := [.int p5, .int (0 : Int32), .int (3 : Int32)]) ⟨hx, hb, hml, hown, hts⟩ (c_X6_isIn l G  hp) (cw_X6_42 hts ⟨Nat.le_of_ble_eq_true rfl, Nat.le_of_ble_eq_true rfl⟩) hw rfl rfl hl.1 (Nat.le_of_ble_eq_true rfl) ⟨Nat.zero_le _, Nat.zero_le _⟩ dX6_glue_59 (fun r_17 I_18 L_19 H locs hp hw => ?_)
          refine lv_if_ne (tgt := 68) hx hb dX6_glue_62 (by decide) (fun hc_20 => ?_) (fun hc_20 => ?_)
          · replace hp := hp.2 hc_20
            refine lv_aload hx hb dX6_glue_68 (lv_at hl 1 rfl) ?_
            refine gf_X6_46 hx hb hts hown hw (ht_4.1) dX6_glue_70 ?_
            refine lv_iload_n hx hb dX6_glue_73 rfl (lv_at hl 4 rfl) ?_
            obtain ⟨hi_21, hp⟩ := hp
            refine r_aaldF hx hb hw (ht_4.2.2.1) rfl hi_21 (b := (t_4 + 41 + (p2).toNatClampNeg)) (if_pos (vp_lt hi_21)) dX6_glue_74 ?_
            refine lv_iload_n hx hb dX6_glue_75 rfl (lv_at hl 5 rfl) ?_
            refine lv_iload hx hb dX6_glue_76 (lv_at hl 6 rfl) ?_
            refine lv_iload hx hb dX6_glue_78 (lv_at hl 7 rfl) ?_
            refine r_cvV (As := [.int p3, .int p4, .int p5]) ⟨hx, hb, hml, hown, hts⟩ (c_X0_setStretch l G ((ht_4.2.2.2.2.2.2.1 _ (vp_lt hi_21))) hp) (cw_X6_50 hts ⟨Nat.le_of_ble_eq_true rfl, Nat.le_of_ble_eq_true rfl⟩) hw (hw.recv ((ht_4.2.2.2.2.2.2.1 _ (vp_lt hi_21))) rfl rfl) rfl rfl hl.1 (Nat.le_of_ble_eq_true rfl) ⟨Nat.zero_le _, Nat.zero_le _⟩ dX6_glue_80 (fun I_23 L_24 H locs hp hw => ?_)
            refine lv_iconst (v := 1) hx hb dX6_glue_83 (by decide) ?_
            exact r_iret hx hb hr hlocks hw hp dX6_glue_84
          · replace hp := hp.1 hc_20
            refine lv_bipush (v := (-2)) hx hb dX6_glue_65 (by decide) ?_
            exact r_iret hx hb hr hlocks hw hp dX6_glue_67
    · replace hp := hp.2 hc_8
      refine lv_iload hx hb dX6_glue_27 (lv_at hl 0 rfl) ?_
      exact r_iret hx hb hr hlocks hw hp dX6_glue_29
set_option maxHeartbeats 4000000 in
set_option maxRecDepth 100000 in
theorem c_X6_isVoid (l : Launch) (G : GX) {Sh : SH} {a0 : Nat} {F : Nat → Option Nat} {p1 : Int32} {p2 : Int32} (h0 : isX G Sh a0 F) {I : MI} {L : ML} {K : Int32 → MI → ML → Prop} (hp : wp_X6_isVoid G Sh a0 F p1 p2 I L K) : CtI l yX6_isVoid (wM yX6_isVoid cX6_isVoid 4 (some .boolean)) (rmA 2 43) G Sh [.ref a0, .int p1, .int p2] I L K := by
  refine ofA (own := RX6) (by decide) rfl (Nat.le_of_ble_eq_true rfl) ?_
  intro p e s m args below meth c ls C hw hl
  obtain ⟨hx, hb, hr, hml, hown, hts, hlocks⟩ := id C
  replace hl : lv_has ls 4 [(0, .ref a0), (1, .int p1), (2, .int p2)] := hl
  unfold wp_X6_isVoid at hp
  refine lv_aload_n hx hb dX6_isVoid_0 rfl (lv_at hl 0 rfl) ?_
  refine lv_iload_n hx hb dX6_isVoid_1 rfl (lv_at hl 1 rfl) ?_
  refine r_cvQ (As := [.int p1]) ⟨hx, hb, hml, hown, hts⟩ (c_X6_find l G (h0) hp) (cw_X6_20 hts ⟨Nat.le_of_ble_eq_true rfl, Nat.le_of_ble_eq_true rfl⟩) hw (hw.recv (h0.1) rfl rfl) rfl rfl hl.1 (Nat.le_of_ble_eq_true rfl) ⟨Nat.zero_le _, Nat.zero_le _⟩ dX6_isVoid_2 (fun r_1 I_2 L_3 H locs hp hw => ?_)
  rcases hp with ⟨rfl, hp⟩ | ⟨t_4, rfl, ht_4, hp⟩
  · refine lv_astore_nN (lv' := [(3, .null), (0, .ref a0), (1, .int p1), (2, .int p2)]) hx hb dX6_isVoid_5 rfl hl (by decide) rfl (fun ls hl => ?_)
    refine lv_aload_nN hx hb dX6_isVoid_6 rfl (lv_at hl 0 rfl) ?_
    refine lv_ifnullN (tgt := 37) hx hb dX6_isVoid_7 (by decide) ?_
    refine lv_iconst (v := 0) hx hb dX6_isVoid_37 (by decide) ?_
    exact r_zret hx hb hr hlocks hw ⟨rfl, hp⟩ dX6_isVoid_38
  · refine lv_astore_n (lv' := [(3, .ref t_4), (0, .ref a0), (1, .int p1), (2, .int p2)]) hx hb dX6_isVoid_5 rfl hl (by decide) rfl (fun ls hl => ?_)
    refine lv_aload_n hx hb dX6_isVoid_6 rfl (lv_at hl 0 rfl) ?_
    refine lv_ifnull hx hb dX6_isVoid_7 ?_
    refine lv_aload_n hx hb dX6_isVoid_10 rfl (lv_at hl 0 rfl) ?_
    refine gf_X6_72 hx hb hts hown hw (ht_4.1) dX6_isVoid_11 ?_
    refine lv_iload_n hx hb dX6_isVoid_14 rfl (lv_at hl 3 rfl) ?_
    refine r_cvI (As := [.int p2]) ⟨hx, hb, hml, hown, hts⟩ (c_X1_hasColumn l G (ht_4.2.2.2.2.2.1) hp) (cw_X6_107 hts ⟨Nat.le_of_ble_eq_true rfl, Nat.le_of_ble_eq_true rfl⟩) hw (hw.recv (ht_4.2.2.2.2.2.1.1) rfl rfl) rfl rfl hl.1 (Nat.le_of_ble_eq_true rfl) ⟨Nat.zero_le _, Nat.zero_le _⟩ dX6_isVoid_15 (fun r_5 I_6 L_7 H locs hp hw => ?_)
    refine lv_if_eq (tgt := 37) hx hb dX6_isVoid_18 (by decide) (fun hc_8 => ?_) (fun hc_8 => ?_)
    · replace hp := hp.1 hc_8
      refine lv_iconst (v := 0) hx hb dX6_isVoid_37 (by decide) ?_
      exact r_zret hx hb hr hlocks hw ⟨rfl, hp⟩ dX6_isVoid_38
    · replace hp := hp.2 hc_8
      refine lv_aload_n hx hb dX6_isVoid_21 rfl (lv_at hl 0 rfl) ?_
      refine gf_X6_72 hx hb hts hown hw (ht_4.1) dX6_isVoid_22 ?_
      refine gf_X6_115 hx hb hts hown hw (ht_4.2.2.2.2.2.1.1) dX6_isVoid_25 ?_
      refine lv_iload_n hx hb dX6_isVoid_28 rfl (lv_at hl 3 rfl) ?_
      obtain ⟨hi_9, hp⟩ := hp
      refine r_zald hx hb hw (ht_4.2.2.2.2.2.1.2.2.1) hi_9 dX6_isVoid_29 ?_
      refine lv_if_eq (tgt := 37) hx hb dX6_isVoid_30 (by decide) (fun hc_10 => ?_) (fun hc_10 => ?_)
      · replace hp := hp.1 hc_10
        refine lv_iconst (v := 0) hx hb dX6_isVoid_37 (by decide) ?_
        exact r_zret hx hb hr hlocks hw ⟨rfl, hp⟩ dX6_isVoid_38
      · replace hp := hp.2 hc_10
        refine lv_iconst (v := 1) hx hb dX6_isVoid_33 (by decide) ?_
        refine lv_goto (tgt := 38) hx hb dX6_isVoid_34 (by decide) ?_
        exact r_zret hx hb hr hlocks hw ⟨rfl, hp⟩ dX6_isVoid_38
set_option maxHeartbeats 4000000 in
set_option maxRecDepth 100000 in
theorem c_X6_lay (l : Launch) (G : GX) {Sh : SH} {a0 : Nat} {F : Nat → Option Nat} {p1 : Int32} (h0 : isX G Sh a0 F) {I : MI} {L : ML} {K : Int32 → MI → ML → Prop} (hp : wp_X6_lay G Sh a0 F p1 I L K) : CtI l yX6_lay (wM yX6_lay cX6_lay 3 (some .int)) (rmA 4 86) G Sh [.ref a0, .int p1] I L K := by
  refine ofA (own := RX6) (by decide) rfl (Nat.le_of_ble_eq_true rfl) ?_
  intro p e s m args below meth c ls C hw hl
  obtain ⟨hx, hb, hr, hml, hown, hts, hlocks⟩ := id C
  replace hl : lv_has ls 3 [(0, .ref a0), (1, .int p1)] := hl
  unfold wp_X6_lay at hp
  refine lv_aload_n hx hb dX6_lay_0 rfl (lv_at hl 0 rfl) ?_
  refine lv_iload_n hx hb dX6_lay_1 rfl (lv_at hl 1 rfl) ?_
  refine r_cvQ (As := [.int p1]) ⟨hx, hb, hml, hown, hts⟩ (c_X6_find l G (h0) hp) (cw_X6_20 hts ⟨Nat.le_of_ble_eq_true rfl, Nat.le_of_ble_eq_true rfl⟩) hw (hw.recv (h0.1) rfl rfl) rfl rfl hl.1 (Nat.le_of_ble_eq_true rfl) ⟨Nat.zero_le _, Nat.zero_le _⟩ dX6_lay_2 (fun r_1 I_2 L_3 H locs hp hw => ?_)
  rcases hp with ⟨rfl, hp⟩ | ⟨t_4, rfl, ht_4, hp⟩
  · refine lv_astore_nN (lv' := [(2, .null), (0, .ref a0), (1, .int p1)]) hx hb dX6_lay_5 rfl hl (by decide) rfl (fun ls hl => ?_)
    refine lv_aload_nN hx hb dX6_lay_6 rfl (lv_at hl 0 rfl) ?_
    refine lv_ifnonnullN hx hb dX6_lay_7 ?_
    refine lv_iconst (v := (-1)) hx hb dX6_lay_10 (by decide) ?_
    exact r_iret hx hb hr hlocks hw hp dX6_lay_11
  · refine lv_astore_n (lv' := [(2, .ref t_4), (0, .ref a0), (1, .int p1)]) hx hb dX6_lay_5 rfl hl (by decide) rfl (fun ls hl => ?_)
    refine lv_aload_n hx hb dX6_lay_6 rfl (lv_at hl 0 rfl) ?_
    refine lv_ifnonnull (tgt := 12) hx hb dX6_lay_7 (by decide) ?_
    refine lv_aload_n hx hb dX6_lay_12 rfl (lv_at hl 0 rfl) ?_
    refine gf_X6_24 hx hb hts hown hw (ht_4.1) dX6_lay_13 ?_
    refine r_cvI (As := []) ⟨hx, hb, hml, hown, hts⟩ (c_X3_readTape l G (ht_4.2.1) hp) (cw_X6_34 hts ⟨Nat.le_of_ble_eq_true rfl, Nat.le_of_ble_eq_true rfl⟩) hw (hw.recv (ht_4.2.1.1) rfl rfl) rfl rfl hl.1 (Nat.le_of_ble_eq_true rfl) ⟨Nat.zero_le _, Nat.zero_le _⟩ dX6_lay_16 (fun r_5 I_6 L_7 H locs hp hw => ?_)
    exact r_iret hx hb hr hlocks hw hp dX6_lay_19
set_option maxHeartbeats 4000000 in
set_option maxRecDepth 100000 in
theorem c_X6_nest (l : Launch) (G : GX) {Sh : SH} {a0 : Nat} {F : Nat → Option Nat} {p1 : Int32} {p2 : Int32} {p3 : Int32} (h0 : isX G Sh a0 F) {I : MI} {L : ML} {K : Int32 → MI → ML → Prop} (hp : wp_X6_nest G Sh a0 F p1 p2 p3 I L K) : CtI l yX6_nest (wM yX6_nest cX6_nest 6 (some .int)) (rmA 3 70) G Sh [.ref a0, .int p1, .int p2, .int p3] I L K := by
  refine ofA (own := RX6) (by decide) rfl (Nat.le_of_ble_eq_true rfl) ?_
  intro p e s m args below meth c ls C hw hl
  obtain ⟨hx, hb, hr, hml, hown, hts, hlocks⟩ := id C
  replace hl : lv_has ls 6 [(0, .ref a0), (1, .int p1), (2, .int p2), (3, .int p3)] := hl
  unfold wp_X6_nest at hp
  refine lv_aload_n hx hb dX6_nest_0 rfl (lv_at hl 0 rfl) ?_
  refine lv_iload_n hx hb dX6_nest_1 rfl (lv_at hl 1 rfl) ?_
  refine r_cvQ (As := [.int p1]) ⟨hx, hb, hml, hown, hts⟩ (c_X6_find l G (h0) hp) (cw_X6_20 hts ⟨Nat.le_of_ble_eq_true rfl, Nat.le_of_ble_eq_true rfl⟩) hw (hw.recv (h0.1) rfl rfl) rfl rfl hl.1 (Nat.le_of_ble_eq_true rfl) ⟨Nat.zero_le _, Nat.zero_le _⟩ dX6_nest_2 (fun r_1 I_2 L_3 H locs hp hw => ?_)
  rcases hp with ⟨rfl, hp⟩ | ⟨t_4, rfl, ht_4, hp⟩
  · refine lv_astoreN (lv' := [(4, .null), (0, .ref a0), (1, .int p1), (2, .int p2), (3, .int p3)]) hx hb dX6_nest_5 hl (by decide) rfl (fun ls hl => ?_)
    refine lv_aload_n hx hb dX6_nest_7 rfl (lv_at hl 1 rfl) ?_
    refine lv_iload_n hx hb dX6_nest_8 rfl (lv_at hl 3 rfl) ?_
    refine r_cvQ (As := [.int p2]) ⟨hx, hb, hml, hown, hts⟩ (c_X6_find l G (h0) hp) (cw_X6_20 hts ⟨Nat.le_of_ble_eq_true rfl, Nat.le_of_ble_eq_true rfl⟩) hw (hw.recv (h0.1) rfl rfl) rfl rfl hl.1 (Nat.le_of_ble_eq_true rfl) ⟨Nat.zero_le _, Nat.zero_le _⟩ dX6_nest_9 (fun r_5 I_6 L_7 H locs hp hw => ?_)
    rcases hp with ⟨rfl, hp⟩ | ⟨t_8, rfl, ht_8, hp⟩
    · refine lv_astoreN (lv' := [(5, .null), (4, .null), (0, .ref a0), (1, .int p1), (2, .int p2), (3, .int p3)]) hx hb dX6_nest_12 hl (by decide) rfl (fun ls hl => ?_)
      refine lv_aloadN hx hb dX6_nest_14 (lv_at hl 1 rfl) ?_
      refine lv_ifnullN (tgt := 24) hx hb dX6_nest_16 (by decide) ?_
      refine lv_iconst (v := (-1)) hx hb dX6_nest_24 (by decide) ?_
      exact r_iret hx hb hr hlocks hw hp dX6_nest_25
    · refine lv_astore (lv' := [(5, .ref t_8), (4, .null), (0, .ref a0), (1, .int p1), (2, .int p2), (3, .int p3)]) hx hb dX6_nest_12 hl (by decide) rfl (fun ls hl => ?_)
      refine lv_aloadN hx hb dX6_nest_14 (lv_at hl 1 rfl) ?_
      refine lv_ifnullN (tgt := 24) hx hb dX6_nest_16 (by decide) ?_
      refine lv_iconst (v := (-1)) hx hb dX6_nest_24 (by decide) ?_
      exact r_iret hx hb hr hlocks hw hp dX6_nest_25
  · refine lv_astore (lv' := [(4, .ref t_4), (0, .ref a0), (1, .int p1), (2, .int p2), (3, .int p3)]) hx hb dX6_nest_5 hl (by decide) rfl (fun ls hl => ?_)
    refine lv_aload_n hx hb dX6_nest_7 rfl (lv_at hl 1 rfl) ?_
    refine lv_iload_n hx hb dX6_nest_8 rfl (lv_at hl 3 rfl) ?_
    refine r_cvQ (As := [.int p2]) ⟨hx, hb, hml, hown, hts⟩ (c_X6_find l G (h0) hp) (cw_X6_20 hts ⟨Nat.le_of_ble_eq_true rfl, Nat.le_of_ble_eq_true rfl⟩) hw (hw.recv (h0.1) rfl rfl) rfl rfl hl.1 (Nat.le_of_ble_eq_true rfl) ⟨Nat.zero_le _, Nat.zero_le _⟩ dX6_nest_9 (fun r_9 I_10 L_11 H locs hp hw => ?_)
    rcases hp with ⟨rfl, hp⟩ | ⟨t_12, rfl, ht_12, hp⟩
    · refine lv_astoreN (lv' := [(5, .null), (4, .ref t_4), (0, .ref a0), (1, .int p1), (2, .int p2), (3, .int p3)]) hx hb dX6_nest_12 hl (by decide) rfl (fun ls hl => ?_)
      refine lv_aload hx hb dX6_nest_14 (lv_at hl 1 rfl) ?_
      refine lv_ifnull hx hb dX6_nest_16 ?_
      refine lv_aloadN hx hb dX6_nest_19 (lv_at hl 0 rfl) ?_
      refine lv_ifnonnullN hx hb dX6_nest_21 ?_
      refine lv_iconst (v := (-1)) hx hb dX6_nest_24 (by decide) ?_
      exact r_iret hx hb hr hlocks hw hp dX6_nest_25
    · refine lv_astore (lv' := [(5, .ref t_12), (4, .ref t_4), (0, .ref a0), (1, .int p1), (2, .int p2), (3, .int p3)]) hx hb dX6_nest_12 hl (by decide) rfl (fun ls hl => ?_)
      refine lv_aload hx hb dX6_nest_14 (lv_at hl 1 rfl) ?_
      refine lv_ifnull hx hb dX6_nest_16 ?_
      refine lv_aload hx hb dX6_nest_19 (lv_at hl 0 rfl) ?_
      refine lv_ifnonnull (tgt := 26) hx hb dX6_nest_21 (by decide) ?_
      refine lv_aload hx hb dX6_nest_26 (lv_at hl 1 rfl) ?_
      refine gf_X6_63 hx hb hts hown hw (ht_4.1) dX6_nest_28 ?_
      refine lv_if_eq (tgt := 50) hx hb dX6_nest_31 (by decide) (fun hc_13 => ?_) (fun hc_13 => ?_)
      · replace hp := hp.1 hc_13
        refine lv_bipush (v := (-3)) hx hb dX6_nest_50 (by decide) ?_
        exact r_iret hx hb hr hlocks hw hp dX6_nest_52
      · replace hp := hp.2 hc_13
        refine lv_iload_n hx hb dX6_nest_34 rfl (lv_at hl 3 rfl) ?_
        refine lv_iload_n hx hb dX6_nest_35 rfl (lv_at hl 4 rfl) ?_
        refine lv_icmp_eq (tgt := 50) hx hb dX6_nest_36 (by decide) (fun hc_14 => ?_) (fun hc_14 => ?_)
        · replace hp := hp.1 hc_14
          refine lv_bipush (v := (-3)) hx hb dX6_nest_50 (by decide) ?_
          exact r_iret hx hb hr hlocks hw hp dX6_nest_52
        · replace hp := hp.2 hc_14
          refine lv_aload hx hb dX6_nest_39 (lv_at hl 0 rfl) ?_
          refine gf_X6_72 hx hb hts hown hw (ht_12.1) dX6_nest_41 ?_
          refine r_cvI (As := []) ⟨hx, hb, hml, hown, hts⟩ (c_X1_isNestable l G (ht_12.2.2.2.2.2.1) hp) (cw_X6_76 hts ⟨Nat.le_of_ble_eq_true rfl, Nat.le_of_ble_eq_true rfl⟩) hw (hw.recv (ht_12.2.2.2.2.2.1.1) rfl rfl) rfl rfl hl.1 (Nat.le_of_ble_eq_true rfl) ⟨Nat.zero_le _, Nat.zero_le _⟩ dX6_nest_44 (fun r_15 I_16 L_17 H locs hp hw => ?_)
          refine lv_if_ne (tgt := 53) hx hb dX6_nest_47 (by decide) (fun hc_18 => ?_) (fun hc_18 => ?_)
          · replace hp := hp.2 hc_18
            refine lv_aload hx hb dX6_nest_53 (lv_at hl 1 rfl) ?_
            refine lv_aload hx hb dX6_nest_55 (lv_at hl 0 rfl) ?_
            refine gf_X6_72 hx hb hts hown hw (ht_12.1) dX6_nest_57 ?_
            refine r_cvL (As := []) ⟨hx, hb, hml, hown, hts⟩ (c_X1_setWidth l G (ht_12.2.2.2.2.2.1) hp) (cw_X6_82 hts ⟨Nat.le_of_ble_eq_true rfl, Nat.le_of_ble_eq_true rfl⟩) hw (hw.recv (ht_12.2.2.2.2.2.1.1) rfl rfl) rfl rfl hl.1 (Nat.le_of_ble_eq_true rfl) ⟨Nat.zero_le _, Nat.zero_le _⟩ dX6_nest_60 (fun r_19 I_20 L_21 H locs hp hw => ?_)
            refine lv_l2i hx hb dX6_nest_63 rfl ?_
            refine lv_iload_n hx hb dX6_nest_64 rfl (lv_at hl 5 rfl) ?_
            refine lv_iconst (v := 1) hx hb dX6_nest_65 (by decide) ?_
            refine r_cvI (As := [.int (Int64.toInt32 r_19), .int p3, .int (1 : Int32)]) ⟨hx, hb, hml, hown, hts⟩ (c_X5_addEntry l G (ht_4) hp) (cw_X6_68 hts ⟨Nat.le_of_ble_eq_true rfl, Nat.le_of_ble_eq_true rfl⟩) hw (hw.recv (ht_4.1) rfl rfl) rfl rfl hl.1 (Nat.le_of_ble_eq_true rfl) ⟨Nat.zero_le _, Nat.zero_le _⟩ dX6_nest_66 (fun r_22 I_23 L_24 H locs hp hw => ?_)
            exact r_iret hx hb hr hlocks hw hp dX6_nest_69
          · replace hp := hp.1 hc_18
            refine lv_bipush (v := (-3)) hx hb dX6_nest_50 (by decide) ?_
            exact r_iret hx hb hr hlocks hw hp dX6_nest_52
set_option maxHeartbeats 4000000 in
set_option maxRecDepth 100000 in
theorem c_X6_row (l : Launch) (G : GX) {Sh : SH} {a0 : Nat} {F : Nat → Option Nat} {p1 : Int32} (h0 : isX G Sh a0 F) {I : MI} {L : ML} {K : Int32 → MI → ML → Prop} (hp : wp_X6_row G Sh a0 F p1 I L K) : CtI l yX6_row (wM yX6_row cX6_row 3 (some .int)) (rmA 2 43) G Sh [.ref a0, .int p1] I L K := by
  refine ofA (own := RX6) (by decide) rfl (Nat.le_of_ble_eq_true rfl) ?_
  intro p e s m args below meth c ls C hw hl
  obtain ⟨hx, hb, hr, hml, hown, hts, hlocks⟩ := id C
  replace hl : lv_has ls 3 [(0, .ref a0), (1, .int p1)] := hl
  unfold wp_X6_row at hp
  refine lv_aload_n hx hb dX6_row_0 rfl (lv_at hl 0 rfl) ?_
  refine lv_iload_n hx hb dX6_row_1 rfl (lv_at hl 1 rfl) ?_
  refine r_cvQ (As := [.int p1]) ⟨hx, hb, hml, hown, hts⟩ (c_X6_find l G (h0) hp) (cw_X6_20 hts ⟨Nat.le_of_ble_eq_true rfl, Nat.le_of_ble_eq_true rfl⟩) hw (hw.recv (h0.1) rfl rfl) rfl rfl hl.1 (Nat.le_of_ble_eq_true rfl) ⟨Nat.zero_le _, Nat.zero_le _⟩ dX6_row_2 (fun r_1 I_2 L_3 H locs hp hw => ?_)
  rcases hp with ⟨rfl, hp⟩ | ⟨t_4, rfl, ht_4, hp⟩
  · refine lv_astore_nN (lv' := [(2, .null), (0, .ref a0), (1, .int p1)]) hx hb dX6_row_5 rfl hl (by decide) rfl (fun ls hl => ?_)
    refine lv_aload_nN hx hb dX6_row_6 rfl (lv_at hl 0 rfl) ?_
    refine lv_ifnonnullN hx hb dX6_row_7 ?_
    refine lv_iconst (v := (-1)) hx hb dX6_row_10 (by decide) ?_
    exact r_iret hx hb hr hlocks hw hp dX6_row_11
  · refine lv_astore_n (lv' := [(2, .ref t_4), (0, .ref a0), (1, .int p1)]) hx hb dX6_row_5 rfl hl (by decide) rfl (fun ls hl => ?_)
    refine lv_aload_n hx hb dX6_row_6 rfl (lv_at hl 0 rfl) ?_
    refine lv_ifnonnull (tgt := 12) hx hb dX6_row_7 (by decide) ?_
    refine lv_aload_n hx hb dX6_row_12 rfl (lv_at hl 0 rfl) ?_
    refine r_cvI (As := []) ⟨hx, hb, hml, hown, hts⟩ (c_X5_openRow l G (ht_4) hp) (cw_X6_60 hts ⟨Nat.le_of_ble_eq_true rfl, Nat.le_of_ble_eq_true rfl⟩) hw (hw.recv (ht_4.1) rfl rfl) rfl rfl hl.1 (Nat.le_of_ble_eq_true rfl) ⟨Nat.zero_le _, Nat.zero_le _⟩ dX6_row_13 (fun r_5 I_6 L_7 H locs hp hw => ?_)
    exact r_iret hx hb hr hlocks hw hp dX6_row_16
set_option maxHeartbeats 4000000 in
set_option maxRecDepth 100000 in
theorem w_X6_run_56 {p : Program} {l : Launch} {e : Env} {s : State} {m : MethodId} {args : Array Value} {below : List Frame} {meth : Method} {c : Code} (C : Cx p s m args meth c cX6_run (some .long) 5 RX6) {G : GX} {Sh : SH} {a0 : Nat} {F : Nat → Option Nat} {p1 : Int32} {p2 : Int32} {p3 : Int32} {K : Int64 → MI → ML → Prop} (h0 : isX G Sh a0 F) : ∀ (wl4 : Nat) (hwl4 : isTable G Sh wl4) (I : MI) (L : ML) (H : Heap) (locs : List Loc) (ls : Array Slot), wp_X6_run_56 G Sh a0 F p1 p2 p3 K wl4 I L → mW G Sh s I L H locs → lv_has ls 5 [(2, .int p2), (3, .int p3), (4, .ref wl4)] → W p l e (rmA 5 114) s m args below meth c H locs 0 0 (eL below G Sh K args s) (F0 m 56 ls []) := by
  obtain ⟨hx, hb, hr, hml, hown, hts, hlocks⟩ := id C
  intro wl4 hwl4 I L H locs ls hp hw hl
  unfold wp_X6_run_56 at hp
  refine lv_aload hx hb dX6_run_56 (lv_at hl 2 rfl) ?_
  refine gf_X6_72 hx hb hts hown hw (hwl4.1) dX6_run_58 ?_
  refine lv_aload hx hb dX6_run_61 (lv_at hl 2 rfl) ?_
  refine lv_iload_n hx hb dX6_run_63 rfl (lv_at hl 0 rfl) ?_
  refine lv_iload_n hx hb dX6_run_64 rfl (lv_at hl 1 rfl) ?_
  refine r_cvL (As := [.ref wl4, .int p2, .int p3]) ⟨hx, hb, hml, hown, hts⟩ (c_X1_setTable l G (hwl4.2.2.2.2.2.1) (hwl4) hp) (cw_X6_103 hts ⟨Nat.le_of_ble_eq_true rfl, Nat.le_of_ble_eq_true rfl⟩) hw (hw.recv (hwl4.2.2.2.2.2.1.1) rfl rfl) rfl rfl hl.1 (Nat.le_of_ble_eq_true rfl) ⟨Nat.zero_le _, Nat.zero_le _⟩ dX6_run_65 (fun r_18 I_19 L_20 H locs hp hw => ?_)
  exact r_lret hx hb hr hlocks hw hp dX6_run_68
set_option maxHeartbeats 4000000 in
set_option maxRecDepth 100000 in
theorem c_X6_run (l : Launch) (G : GX) {Sh : SH} {a0 : Nat} {F : Nat → Option Nat} {p1 : Int32} {p2 : Int32} {p3 : Int32} (h0 : isX G Sh a0 F) {I : MI} {L : ML} {K : Int64 → MI → ML → Prop} (hp : wp_X6_run G Sh a0 F p1 p2 p3 I L K) : CtL l yX6_run (wM yX6_run cX6_run 5 (some .long)) (rmA 5 114) G Sh [.ref a0, .int p1, .int p2, .int p3] I L K := by
  refine ofA (own := RX6) (by decide) rfl (Nat.le_of_ble_eq_true rfl) ?_
  intro p e s m args below meth c ls C hw hl
  obtain ⟨hx, hb, hr, hml, hown, hts, hlocks⟩ := id C
  replace hl : lv_has ls 5 [(0, .ref a0), (1, .int p1), (2, .int p2), (3, .int p3)] := hl
  unfold wp_X6_run at hp
  refine lv_aload_n hx hb dX6_run_0 rfl (lv_at hl 0 rfl) ?_
  refine lv_iload_n hx hb dX6_run_1 rfl (lv_at hl 1 rfl) ?_
  refine r_cvQ (As := [.int p1]) ⟨hx, hb, hml, hown, hts⟩ (c_X6_find l G (h0) hp) (cw_X6_20 hts ⟨Nat.le_of_ble_eq_true rfl, Nat.le_of_ble_eq_true rfl⟩) hw (hw.recv (h0.1) rfl rfl) rfl rfl hl.1 (Nat.le_of_ble_eq_true rfl) ⟨Nat.zero_le _, Nat.zero_le _⟩ dX6_run_2 (fun r_1 I_2 L_3 H locs hp hw => ?_)
  rcases hp with ⟨rfl, hp⟩ | ⟨t_4, rfl, ht_4, hp⟩
  · refine lv_astoreN (lv' := [(4, .null), (0, .ref a0), (1, .int p1), (2, .int p2), (3, .int p3)]) hx hb dX6_run_5 hl (by decide) rfl (fun ls hl => ?_)
    refine lv_aloadN hx hb dX6_run_7 (lv_at hl 0 rfl) ?_
    refine lv_ifnonnullN hx hb dX6_run_9 ?_
    refine lv_ldc2 hx hb hown (hts _ k_429) dX6_run_12 ?_
    exact r_lret hx hb hr hlocks hw hp dX6_run_15
  · refine lv_astore (lv' := [(4, .ref t_4), (0, .ref a0), (1, .int p1), (2, .int p2), (3, .int p3)]) hx hb dX6_run_5 hl (by decide) rfl (fun ls hl => ?_)
    refine lv_aload hx hb dX6_run_7 (lv_at hl 0 rfl) ?_
    refine lv_ifnonnull (tgt := 16) hx hb dX6_run_9 (by decide) ?_
    refine lv_aload hx hb dX6_run_16 (lv_at hl 0 rfl) ?_
    refine r_cvI (As := []) ⟨hx, hb, hml, hown, hts⟩ (c_X5_isAtRest l G (ht_4) hp) (cw_X6_94 hts ⟨Nat.le_of_ble_eq_true rfl, Nat.le_of_ble_eq_true rfl⟩) hw (hw.recv (ht_4.1) rfl rfl) rfl rfl hl.1 (Nat.le_of_ble_eq_true rfl) ⟨Nat.zero_le _, Nat.zero_le _⟩ dX6_run_18 (fun r_5 I_6 L_7 H locs hp hw => ?_)
    refine lv_if_ne (tgt := 28) hx hb dX6_run_21 (by decide) (fun hc_8 => ?_) (fun hc_8 => ?_)
    · replace hp := hp.2 hc_8
      refine lv_iload_n hx hb dX6_run_28 rfl (lv_at hl 3 rfl) ?_
      refine lv_iconst (v := 0) hx hb dX6_run_29 (by decide) ?_
      refine lv_iconst (v := 2) hx hb dX6_run_30 (by decide) ?_
      refine r_csI (As := [.int p2, .int (0 : Int32), .int (2 : Int32)]) ⟨hx, hb, hml, hown, hts⟩ (c_X6_isIn l G  hp) (cw_X6_42 hts ⟨Nat.le_of_ble_eq_true rfl, Nat.le_of_ble_eq_true rfl⟩) hw rfl rfl hl.1 (Nat.le_of_ble_eq_true rfl) ⟨Nat.zero_le _, Nat.zero_le _⟩ dX6_run_31 (fun r_9 I_10 L_11 H locs hp hw => ?_)
      refine lv_if_eq (tgt := 52) hx hb dX6_run_34 (by decide) (fun hc_12 => ?_) (fun hc_12 => ?_)
      · replace hp := hp.1 hc_12
        refine lv_ldc2 hx hb hown (hts _ k_434) dX6_run_52 ?_
        exact r_lret hx hb hr hlocks hw hp dX6_run_55
      · replace hp := hp.2 hc_12
        refine lv_iload_n hx hb dX6_run_37 rfl (lv_at hl 3 rfl) ?_
        refine lv_if_eq (tgt := 56) hx hb dX6_run_38 (by decide) (fun hc_13 => ?_) (fun hc_13 => ?_)
        · replace hp := hp.1 hc_13
          exact w_X6_run_56 C h0 (t_4) (ht_4) _ _ _ _ _ hp hw (lv_sub hl [3, 4, 0] rfl)
        · replace hp := hp.2 hc_13
          refine lv_iload_n hx hb dX6_run_41 rfl (lv_at hl 4 rfl) ?_
          refine lv_ldc hx hb hown (hts _ k_432) dX6_run_42 ?_
          refine lv_ldc hx hb hown (hts _ k_433) dX6_run_44 ?_
          refine r_csI (As := [.int p3, .int (-1000000 : Int32), .int (1000000 : Int32)]) ⟨hx, hb, hml, hown, hts⟩ (c_X6_isIn l G  hp) (cw_X6_42 hts ⟨Nat.le_of_ble_eq_true rfl, Nat.le_of_ble_eq_true rfl⟩) hw rfl rfl hl.1 (Nat.le_of_ble_eq_true rfl) ⟨Nat.zero_le _, Nat.zero_le _⟩ dX6_run_46 (fun r_14 I_15 L_16 H locs hp hw => ?_)
          refine lv_if_ne (tgt := 56) hx hb dX6_run_49 (by decide) (fun hc_17 => ?_) (fun hc_17 => ?_)
          · replace hp := hp.2 hc_17
            exact w_X6_run_56 C h0 (t_4) (ht_4) _ _ _ _ _ hp hw (lv_sub hl [3, 4, 0] rfl)
          · replace hp := hp.1 hc_17
            refine lv_ldc2 hx hb hown (hts _ k_434) dX6_run_52 ?_
            exact r_lret hx hb hr hlocks hw hp dX6_run_55
    · replace hp := hp.1 hc_8
      refine lv_ldc2 hx hb hown (hts _ k_431) dX6_run_24 ?_
      exact r_lret hx hb hr hlocks hw hp dX6_run_27
set_option maxHeartbeats 4000000 in
set_option maxRecDepth 100000 in
theorem c_X6_shrink (l : Launch) (G : GX) {Sh : SH} {a0 : Nat} {F : Nat → Option Nat} {p1 : Int32} {p2 : Int32} {p3 : Int32} {p4 : Int32} (h0 : isX G Sh a0 F) {I : MI} {L : ML} {K : Int32 → MI → ML → Prop} (hp : wp_X6_shrink G Sh a0 F p1 p2 p3 p4 I L K) : CtI l yX6_shrink (wM yX6_shrink cX6_shrink 7 (some .int)) (rmA 2 43) G Sh [.ref a0, .int p1, .int p2, .int p3, .int p4] I L K := by
  refine ofA (own := RX6) (by decide) rfl (Nat.le_of_ble_eq_true rfl) ?_
  intro p e s m args below meth c ls C hw hl
  obtain ⟨hx, hb, hr, hml, hown, hts, hlocks⟩ := id C
  replace hl : lv_has ls 7 [(0, .ref a0), (1, .int p1), (2, .int p2), (3, .int p3), (4, .int p4)] := hl
  unfold wp_X6_shrink at hp
  refine lv_aload_n hx hb dX6_shrink_0 rfl (lv_at hl 0 rfl) ?_
  refine lv_iload_n hx hb dX6_shrink_1 rfl (lv_at hl 1 rfl) ?_
  refine r_cvQ (As := [.int p1]) ⟨hx, hb, hml, hown, hts⟩ (c_X6_find l G (h0) hp) (cw_X6_20 hts ⟨Nat.le_of_ble_eq_true rfl, Nat.le_of_ble_eq_true rfl⟩) hw (hw.recv (h0.1) rfl rfl) rfl rfl hl.1 (Nat.le_of_ble_eq_true rfl) ⟨Nat.zero_le _, Nat.zero_le _⟩ dX6_shrink_2 (fun r_1 I_2 L_3 H locs hp hw => ?_)
  rcases hp with ⟨rfl, hp⟩ | ⟨t_4, rfl, ht_4, hp⟩
  · refine lv_astoreN (lv' := [(5, .null), (0, .ref a0), (1, .int p1), (2, .int p2), (3, .int p3), (4, .int p4)]) hx hb dX6_shrink_5 hl (by decide) rfl (fun ls hl => ?_)
    refine lv_aloadN hx hb dX6_shrink_7 (lv_at hl 0 rfl) ?_
    refine lv_ifnonnullN hx hb dX6_shrink_9 ?_
    refine lv_iconst (v := (-1)) hx hb dX6_shrink_12 (by decide) ?_
    exact r_iret hx hb hr hlocks hw hp dX6_shrink_13
  · refine lv_astore (lv' := [(5, .ref t_4), (0, .ref a0), (1, .int p1), (2, .int p2), (3, .int p3), (4, .int p4)]) hx hb dX6_shrink_5 hl (by decide) rfl (fun ls hl => ?_)
    refine lv_aload hx hb dX6_shrink_7 (lv_at hl 0 rfl) ?_
    refine lv_ifnonnull (tgt := 14) hx hb dX6_shrink_9 (by decide) ?_
    refine lv_aload hx hb dX6_shrink_14 (lv_at hl 0 rfl) ?_
    refine lv_iload_n hx hb dX6_shrink_16 rfl (lv_at hl 3 rfl) ?_
    refine r_cvI (As := [.int p2]) ⟨hx, hb, hml, hown, hts⟩ (c_X5_refuseGlue l G (ht_4) hp) (cw_X6_38 hts ⟨Nat.le_of_ble_eq_true rfl, Nat.le_of_ble_eq_true rfl⟩) hw (hw.recv (ht_4.1) rfl rfl) rfl rfl hl.1 (Nat.le_of_ble_eq_true rfl) ⟨Nat.zero_le _, Nat.zero_le _⟩ dX6_shrink_17 (fun r_5 I_6 L_7 H locs hp hw => ?_)
    refine lv_istore (lv' := [(6, .int r_5), (5, .ref t_4), (0, .ref a0), (1, .int p1), (2, .int p2), (3, .int p3), (4, .int p4)]) hx hb dX6_shrink_20 hl (by decide) rfl (fun ls hl => ?_)
    refine lv_iload hx hb dX6_shrink_22 (lv_at hl 0 rfl) ?_
    refine lv_if_eq (tgt := 30) hx hb dX6_shrink_24 (by decide) (fun hc_8 => ?_) (fun hc_8 => ?_)
    · replace hp := hp.1 hc_8
      refine lv_iload_n hx hb dX6_shrink_30 rfl (lv_at hl 5 rfl) ?_
      refine lv_iconst (v := 0) hx hb dX6_shrink_31 (by decide) ?_
      refine lv_sipush (v := 10000) hx hb dX6_shrink_32 (by decide) ?_
      refine r_csI (As := [.int p3, .int (0 : Int32), .int (10000 : Int32)]) ⟨hx, hb, hml, hown, hts⟩ (c_X6_isIn l G  hp) (cw_X6_42 hts ⟨Nat.le_of_ble_eq_true rfl, Nat.le_of_ble_eq_true rfl⟩) hw rfl rfl hl.1 (Nat.le_of_ble_eq_true rfl) ⟨Nat.zero_le _, Nat.zero_le _⟩ dX6_shrink_35 (fun r_9 I_10 L_11 H locs hp hw => ?_)
      refine lv_if_eq (tgt := 51) hx hb dX6_shrink_38 (by decide) (fun hc_12 => ?_) (fun hc_12 => ?_)
      · replace hp := hp.1 hc_12
        refine lv_bipush (v := (-2)) hx hb dX6_shrink_51 (by decide) ?_
        exact r_iret hx hb hr hlocks hw hp dX6_shrink_53
      · replace hp := hp.2 hc_12
        refine lv_iload hx hb dX6_shrink_41 (lv_at hl 6 rfl) ?_
        refine lv_iconst (v := 0) hx hb dX6_shrink_43 (by decide) ?_
        refine lv_iconst (v := 3) hx hb dX6_shrink_44 (by decide) ?_
        refine r_csI (As := [.int p4, .int (0 : Int32), .int (3 : Int32)]) ⟨hx, hb, hml, hown, hts⟩ (c_X6_isIn l G  hp) (cw_X6_42 hts ⟨Nat.le_of_ble_eq_true rfl, Nat.le_of_ble_eq_true rfl⟩) hw rfl rfl hl.1 (Nat.le_of_ble_eq_true rfl) ⟨Nat.zero_le _, Nat.zero_le _⟩ dX6_shrink_45 (fun r_13 I_14 L_15 H locs hp hw => ?_)
        refine lv_if_ne (tgt := 54) hx hb dX6_shrink_48 (by decide) (fun hc_16 => ?_) (fun hc_16 => ?_)
        · replace hp := hp.2 hc_16
          refine lv_aload hx hb dX6_shrink_54 (lv_at hl 1 rfl) ?_
          refine gf_X6_46 hx hb hts hown hw (ht_4.1) dX6_shrink_56 ?_
          refine lv_iload_n hx hb dX6_shrink_59 rfl (lv_at hl 4 rfl) ?_
          obtain ⟨hi_17, hp⟩ := hp
          refine r_aaldF hx hb hw (ht_4.2.2.1) rfl hi_17 (b := (t_4 + 41 + (p2).toNatClampNeg)) (if_pos (vp_lt hi_17)) dX6_shrink_60 ?_
          refine lv_iload_n hx hb dX6_shrink_61 rfl (lv_at hl 5 rfl) ?_
          refine lv_iload hx hb dX6_shrink_62 (lv_at hl 6 rfl) ?_
          refine r_cvV (As := [.int p3, .int p4]) ⟨hx, hb, hml, hown, hts⟩ (c_X0_setShrink l G ((ht_4.2.2.2.2.2.2.1 _ (vp_lt hi_17))) hp) (cw_X6_56 hts ⟨Nat.le_of_ble_eq_true rfl, Nat.le_of_ble_eq_true rfl⟩) hw (hw.recv ((ht_4.2.2.2.2.2.2.1 _ (vp_lt hi_17))) rfl rfl) rfl rfl hl.1 (Nat.le_of_ble_eq_true rfl) ⟨Nat.zero_le _, Nat.zero_le _⟩ dX6_shrink_64 (fun I_19 L_20 H locs hp hw => ?_)
          refine lv_iconst (v := 1) hx hb dX6_shrink_67 (by decide) ?_
          exact r_iret hx hb hr hlocks hw hp dX6_shrink_68
        · replace hp := hp.1 hc_16
          refine lv_bipush (v := (-2)) hx hb dX6_shrink_51 (by decide) ?_
          exact r_iret hx hb hr hlocks hw hp dX6_shrink_53
    · replace hp := hp.2 hc_8
      refine lv_iload hx hb dX6_shrink_27 (lv_at hl 0 rfl) ?_
      exact r_iret hx hb hr hlocks hw hp dX6_shrink_29
set_option maxHeartbeats 4000000 in
set_option maxRecDepth 100000 in
theorem c_X6_type (l : Launch) (G : GX) {Sh : SH} {a0 : Nat} {F : Nat → Option Nat} {p1 : Int32} {p2 : Int32} {p3 : Int32} {p4 : Int32} (h0 : isX G Sh a0 F) {I : MI} {L : ML} {K : Int32 → MI → ML → Prop} (hp : wp_X6_type G Sh a0 F p1 p2 p3 p4 I L K) : CtI l yX6_type (wM yX6_type cX6_type 6 (some .int)) (rmA 3 67) G Sh [.ref a0, .int p1, .int p2, .int p3, .int p4] I L K := by
  refine ofA (own := RX6) (by decide) rfl (Nat.le_of_ble_eq_true rfl) ?_
  intro p e s m args below meth c ls C hw hl
  obtain ⟨hx, hb, hr, hml, hown, hts, hlocks⟩ := id C
  replace hl : lv_has ls 6 [(0, .ref a0), (1, .int p1), (2, .int p2), (3, .int p3), (4, .int p4)] := hl
  unfold wp_X6_type at hp
  refine lv_aload_n hx hb dX6_type_0 rfl (lv_at hl 0 rfl) ?_
  refine lv_iload_n hx hb dX6_type_1 rfl (lv_at hl 1 rfl) ?_
  refine r_cvQ (As := [.int p1]) ⟨hx, hb, hml, hown, hts⟩ (c_X6_find l G (h0) hp) (cw_X6_20 hts ⟨Nat.le_of_ble_eq_true rfl, Nat.le_of_ble_eq_true rfl⟩) hw (hw.recv (h0.1) rfl rfl) rfl rfl hl.1 (Nat.le_of_ble_eq_true rfl) ⟨Nat.zero_le _, Nat.zero_le _⟩ dX6_type_2 (fun r_1 I_2 L_3 H locs hp hw => ?_)
  rcases hp with ⟨rfl, hp⟩ | ⟨t_4, rfl, ht_4, hp⟩
  · refine lv_astoreN (lv' := [(5, .null), (0, .ref a0), (1, .int p1), (2, .int p2), (3, .int p3), (4, .int p4)]) hx hb dX6_type_5 hl (by decide) rfl (fun ls hl => ?_)
    refine lv_aloadN hx hb dX6_type_7 (lv_at hl 0 rfl) ?_
    refine lv_ifnonnullN hx hb dX6_type_9 ?_
    refine lv_iconst (v := (-1)) hx hb dX6_type_12 (by decide) ?_
    exact r_iret hx hb hr hlocks hw hp dX6_type_13
  · refine lv_astore (lv' := [(5, .ref t_4), (0, .ref a0), (1, .int p1), (2, .int p2), (3, .int p3), (4, .int p4)]) hx hb dX6_type_5 hl (by decide) rfl (fun ls hl => ?_)
    refine lv_aload hx hb dX6_type_7 (lv_at hl 0 rfl) ?_
    refine lv_ifnonnull (tgt := 14) hx hb dX6_type_9 (by decide) ?_
    refine lv_aload hx hb dX6_type_14 (lv_at hl 0 rfl) ?_
    refine gf_X6_24 hx hb hts hown hw (ht_4.1) dX6_type_16 ?_
    refine lv_iload_n hx hb dX6_type_19 rfl (lv_at hl 3 rfl) ?_
    refine lv_iload_n hx hb dX6_type_20 rfl (lv_at hl 4 rfl) ?_
    refine lv_iload hx hb dX6_type_21 (lv_at hl 5 rfl) ?_
    refine r_cvI (As := [.int p2, .int p3, .int p4]) ⟨hx, hb, hml, hown, hts⟩ (c_X3_append l G (ht_4.2.1) hp) (cw_X6_28 hts ⟨Nat.le_of_ble_eq_true rfl, Nat.le_of_ble_eq_true rfl⟩) hw (hw.recv (ht_4.2.1.1) rfl rfl) rfl rfl hl.1 (Nat.le_of_ble_eq_true rfl) ⟨Nat.zero_le _, Nat.zero_le _⟩ dX6_type_23 (fun r_5 I_6 L_7 H locs hp hw => ?_)
    exact r_iret hx hb hr hlocks hw hp dX6_type_26
set_option maxHeartbeats 4000000 in
set_option maxRecDepth 100000 in
theorem c_X6_width (l : Launch) (G : GX) {Sh : SH} {a0 : Nat} {F : Nat → Option Nat} {p1 : Int32} {p2 : Int32} (h0 : isX G Sh a0 F) {I : MI} {L : ML} {K : Int32 → MI → ML → Prop} (hp : wp_X6_width G Sh a0 F p1 p2 I L K) : CtI l yX6_width (wM yX6_width cX6_width 4 (some .int)) (rmA 2 43) G Sh [.ref a0, .int p1, .int p2] I L K := by
  refine ofA (own := RX6) (by decide) rfl (Nat.le_of_ble_eq_true rfl) ?_
  intro p e s m args below meth c ls C hw hl
  obtain ⟨hx, hb, hr, hml, hown, hts, hlocks⟩ := id C
  replace hl : lv_has ls 4 [(0, .ref a0), (1, .int p1), (2, .int p2)] := hl
  unfold wp_X6_width at hp
  refine lv_aload_n hx hb dX6_width_0 rfl (lv_at hl 0 rfl) ?_
  refine lv_iload_n hx hb dX6_width_1 rfl (lv_at hl 1 rfl) ?_
  refine r_cvQ (As := [.int p1]) ⟨hx, hb, hml, hown, hts⟩ (c_X6_find l G (h0) hp) (cw_X6_20 hts ⟨Nat.le_of_ble_eq_true rfl, Nat.le_of_ble_eq_true rfl⟩) hw (hw.recv (h0.1) rfl rfl) rfl rfl hl.1 (Nat.le_of_ble_eq_true rfl) ⟨Nat.zero_le _, Nat.zero_le _⟩ dX6_width_2 (fun r_1 I_2 L_3 H locs hp hw => ?_)
  rcases hp with ⟨rfl, hp⟩ | ⟨t_4, rfl, ht_4, hp⟩
  · refine lv_astore_nN (lv' := [(3, .null), (0, .ref a0), (1, .int p1), (2, .int p2)]) hx hb dX6_width_5 rfl hl (by decide) rfl (fun ls hl => ?_)
    refine lv_aload_nN hx hb dX6_width_6 rfl (lv_at hl 0 rfl) ?_
    refine lv_ifnullN (tgt := 21) hx hb dX6_width_7 (by decide) ?_
    refine lv_iconst (v := (-1)) hx hb dX6_width_21 (by decide) ?_
    exact r_iret hx hb hr hlocks hw hp dX6_width_22
  · refine lv_astore_n (lv' := [(3, .ref t_4), (0, .ref a0), (1, .int p1), (2, .int p2)]) hx hb dX6_width_5 rfl hl (by decide) rfl (fun ls hl => ?_)
    refine lv_aload_n hx hb dX6_width_6 rfl (lv_at hl 0 rfl) ?_
    refine lv_ifnull hx hb dX6_width_7 ?_
    refine lv_aload_n hx hb dX6_width_10 rfl (lv_at hl 0 rfl) ?_
    refine gf_X6_72 hx hb hts hown hw (ht_4.1) dX6_width_11 ?_
    refine lv_iload_n hx hb dX6_width_14 rfl (lv_at hl 3 rfl) ?_
    refine r_cvI (As := [.int p2]) ⟨hx, hb, hml, hown, hts⟩ (c_X1_hasColumn l G (ht_4.2.2.2.2.2.1) hp) (cw_X6_107 hts ⟨Nat.le_of_ble_eq_true rfl, Nat.le_of_ble_eq_true rfl⟩) hw (hw.recv (ht_4.2.2.2.2.2.1.1) rfl rfl) rfl rfl hl.1 (Nat.le_of_ble_eq_true rfl) ⟨Nat.zero_le _, Nat.zero_le _⟩ dX6_width_15 (fun r_5 I_6 L_7 H locs hp hw => ?_)
    refine lv_if_ne (tgt := 23) hx hb dX6_width_18 (by decide) (fun hc_8 => ?_) (fun hc_8 => ?_)
    · replace hp := hp.2 hc_8
      refine lv_aload_n hx hb dX6_width_23 rfl (lv_at hl 0 rfl) ?_
      refine gf_X6_72 hx hb hts hown hw (ht_4.1) dX6_width_24 ?_
      refine gf_X6_111 hx hb hts hown hw (ht_4.2.2.2.2.2.1.1) dX6_width_27 ?_
      refine lv_iload_n hx hb dX6_width_30 rfl (lv_at hl 3 rfl) ?_
      obtain ⟨hi_9, hp⟩ := hp
      refine r_iald hx hb hw (ht_4.2.2.2.2.2.1.2.1) hi_9 dX6_width_31 ?_
      exact r_iret hx hb hr hlocks hw hp dX6_width_32
    · replace hp := hp.1 hc_8
      refine lv_iconst (v := (-1)) hx hb dX6_width_21 (by decide) ?_
      exact r_iret hx hb hr hlocks hw hp dX6_width_22
set_option maxHeartbeats 4000000 in
set_option maxRecDepth 100000 in
theorem c_X7_free (l : Launch) (G : GX) {Sh : SH} {a0 : Nat} {p1 : Int32} (h0 : isModel G Sh a0) {I : MI} {L : ML} {K : Int32 → MI → ML → Prop} (hp : wp_X7_free G Sh a0 p1 I L K) : CtI l yX7_free (wM yX7_free cX7_free 4 (some .int)) (rmA 0 0) G Sh [.ref a0, .int p1] I L K := by
  refine ofA (own := RX7) (by decide) rfl (Nat.le_of_ble_eq_true rfl) ?_
  intro p e s m args below meth c ls C hw hl
  obtain ⟨hx, hb, hr, hml, hown, hts, hlocks⟩ := id C
  replace hl : lv_has ls 4 [(0, .ref a0), (1, .int p1)] := hl
  unfold wp_X7_free at hp
  refine lv_bipush (v := 20) hx hb dX7_free_0 (by decide) ?_
  refine lv_iload_n hx hb dX7_free_2 rfl (lv_at hl 1 rfl) ?_
  refine lv_imul hx hb dX7_free_3 ?_
  refine lv_aload_n hx hb dX7_free_4 rfl (lv_at hl 0 rfl) ?_
  refine gf_X7_47 hx hb hts hown hw (h0.1) dX7_free_5 ?_
  refine lv_iload_n hx hb dX7_free_8 rfl (lv_at hl 1 rfl) ?_
  obtain ⟨hi_1, hp⟩ := hp
  refine r_iald hx hb hw (h0.2.2.2.2.2.2.2.2.2.2.2.2.2.1) hi_1 dX7_free_9 ?_
  refine lv_iadd hx hb dX7_free_10 ?_
  refine lv_iconst (v := 1) hx hb dX7_free_11 (by decide) ?_
  refine lv_isub hx hb dX7_free_12 ?_
  refine lv_topi (fun x_2 ex_2 => ?_)
  replace hp := hp x_2 ex_2
  refine lv_istore_n (lv' := [(2, .int x_2), (0, .ref a0), (1, .int p1)]) hx hb dX7_free_13 rfl hl (by decide) rfl (fun ls hl => ?_)
  refine lv_aload_n hx hb dX7_free_14 rfl (lv_at hl 1 rfl) ?_
  refine gf_X7_56 hx hb hts hown hw (h0.1) dX7_free_15 ?_
  refine lv_iload_n hx hb dX7_free_18 rfl (lv_at hl 0 rfl) ?_
  obtain ⟨hi_3, hp⟩ := hp
  refine r_iald hx hb hw (h0.2.2.2.2.2.2.2.2.2.2.2.2.2.2.2.2.1) hi_3 dX7_free_19 ?_
  refine lv_if_ne (tgt := 25) hx hb dX7_free_20 (by decide) (fun hc_4 => ?_) (fun hc_4 => ?_)
  · replace hp := hp.2 hc_4
    refine lv_sipush (v := 480) hx hb dX7_free_25 (by decide) ?_
    refine lv_iload_n hx hb dX7_free_28 rfl (lv_at hl 2 rfl) ?_
    refine lv_imul hx hb dX7_free_29 ?_
    refine lv_aload_n hx hb dX7_free_30 rfl (lv_at hl 1 rfl) ?_
    refine gf_X7_59 hx hb hts hown hw (h0.1) dX7_free_31 ?_
    refine lv_iload_n hx hb dX7_free_34 rfl (lv_at hl 2 rfl) ?_
    obtain ⟨hi_5, hp⟩ := hp
    refine r_iald hx hb hw (h0.2.2.2.2.2.2.2.2.2.2.2.2.2.2.2.2.2.1) hi_5 dX7_free_35 ?_
    refine lv_iadd hx hb dX7_free_36 ?_
    refine lv_iconst (v := 1) hx hb dX7_free_37 (by decide) ?_
    refine lv_isub hx hb dX7_free_38 ?_
    refine lv_topi (fun x_6 ex_6 => ?_)
    replace hp := hp x_6 ex_6
    refine lv_istore_n (lv' := [(3, .int x_6), (2, .int x_2), (0, .ref a0), (1, .int p1)]) hx hb dX7_free_39 rfl hl (by decide) rfl (fun ls hl => ?_)
    refine lv_aload_n hx hb dX7_free_40 rfl (lv_at hl 2 rfl) ?_
    refine gf_X7_65 hx hb hts hown hw (h0.1) dX7_free_41 ?_
    refine lv_iload_n hx hb dX7_free_44 rfl (lv_at hl 0 rfl) ?_
    obtain ⟨hi_7, hp⟩ := hp
    refine r_iald hx hb hw (h0.2.2.2.2.2.2.2.2.2.2.2.2.2.2.2.2.2.2.2.1) hi_7 dX7_free_45 ?_
    refine lv_aload_n hx hb dX7_free_46 rfl (lv_at hl 2 rfl) ?_
    refine gf_X7_68 hx hb hts hown hw (h0.1) dX7_free_47 ?_
    refine lv_iload_n hx hb dX7_free_50 rfl (lv_at hl 0 rfl) ?_
    obtain ⟨hi_8, hp⟩ := hp
    refine r_iald hx hb hw (h0.2.2.2.2.2.2.2.2.2.2.2.2.2.2.2.2.2.2.2.2.1) hi_8 dX7_free_51 ?_
    refine lv_iadd hx hb dX7_free_52 ?_
    exact r_iret hx hb hr hlocks hw hp dX7_free_53
  · replace hp := hp.1 hc_4
    refine lv_iconst (v := 0) hx hb dX7_free_23 (by decide) ?_
    exact r_iret hx hb hr hlocks hw hp dX7_free_24
set_option maxHeartbeats 4000000 in
set_option maxRecDepth 100000 in
theorem c_X7_add (l : Launch) (G : GX) {Sh : SH} {a0 : Nat} {p1 : Int32} {p2 : Int32} {p3 : Int32} (h0 : isModel G Sh a0) {I : MI} {L : ML} {K : Int32 → MI → ML → Prop} (hp : wp_X7_add G Sh a0 p1 p2 p3 I L K) : CtI l yX7_add (wM yX7_add cX7_add 5 (some .int)) (rmA 1 23) G Sh [.ref a0, .int p1, .int p2, .int p3] I L K := by
  refine ofA (own := RX7) (by decide) rfl (Nat.le_of_ble_eq_true rfl) ?_
  intro p e s m args below meth c ls C hw hl
  obtain ⟨hx, hb, hr, hml, hown, hts, hlocks⟩ := id C
  replace hl : lv_has ls 5 [(0, .ref a0), (1, .int p1), (2, .int p2), (3, .int p3)] := hl
  unfold wp_X7_add at hp
  refine lv_sipush (v := 480) hx hb dX7_add_0 (by decide) ?_
  refine lv_iload_n hx hb dX7_add_3 rfl (lv_at hl 1 rfl) ?_
  refine lv_imul hx hb dX7_add_4 ?_
  refine lv_aload_n hx hb dX7_add_5 rfl (lv_at hl 0 rfl) ?_
  refine gf_X7_59 hx hb hts hown hw (h0.1) dX7_add_6 ?_
  refine lv_iload_n hx hb dX7_add_9 rfl (lv_at hl 1 rfl) ?_
  obtain ⟨hi_1, hp⟩ := hp
  refine r_iald hx hb hw (h0.2.2.2.2.2.2.2.2.2.2.2.2.2.2.2.2.2.1) hi_1 dX7_add_10 ?_
  refine lv_iadd hx hb dX7_add_11 ?_
  refine lv_topi (fun x_2 ex_2 => ?_)
  replace hp := hp x_2 ex_2
  refine lv_istore (lv' := [(4, .int x_2), (0, .ref a0), (1, .int p1), (2, .int p2), (3, .int p3)]) hx hb dX7_add_12 hl (by decide) rfl (fun ls hl => ?_)
  refine lv_aload_n hx hb dX7_add_14 rfl (lv_at hl 1 rfl) ?_
  refine gf_X7_65 hx hb hts hown hw (h0.1) dX7_add_15 ?_
  refine lv_iload hx hb dX7_add_18 (lv_at hl 0 rfl) ?_
  refine lv_aload_n hx hb dX7_add_20 rfl (lv_at hl 1 rfl) ?_
  refine lv_iload_n hx hb dX7_add_21 rfl (lv_at hl 2 rfl) ?_
  refine r_cvI (As := [.int p1]) ⟨hx, hb, hml, hown, hts⟩ (c_X7_free l G (h0) hp) (cw_X7_167 hts ⟨Nat.le_of_ble_eq_true rfl, Nat.le_of_ble_eq_true rfl⟩) hw (hw.recv (h0.1) rfl rfl) rfl rfl hl.1 (Nat.le_of_ble_eq_true rfl) ⟨Nat.zero_le _, Nat.zero_le _⟩ dX7_add_22 (fun r_3 I_4 L_5 H locs hp hw => ?_)
  obtain ⟨hi_6, hp⟩ := hp
  refine r_iast hx hb hw (h0.2.2.2.2.2.2.2.2.2.2.2.2.2.2.2.2.2.2.2.1) hi_6 dX7_add_25 (fun I_7 H locs eI_7 hw => ?_)
  replace hp := hp I_7 eI_7
  refine lv_aload_n hx hb dX7_add_26 rfl (lv_at hl 1 rfl) ?_
  refine gf_X7_68 hx hb hts hown hw (h0.1) dX7_add_27 ?_
  refine lv_iload hx hb dX7_add_30 (lv_at hl 0 rfl) ?_
  refine lv_iload_n hx hb dX7_add_32 rfl (lv_at hl 4 rfl) ?_
  obtain ⟨hi_8, hp⟩ := hp
  refine r_iast hx hb hw (h0.2.2.2.2.2.2.2.2.2.2.2.2.2.2.2.2.2.2.2.2.1) hi_8 dX7_add_33 (fun I_9 H locs eI_9 hw => ?_)
  replace hp := hp I_9 eI_9
  refine lv_aload_n hx hb dX7_add_34 rfl (lv_at hl 1 rfl) ?_
  refine gf_X7_62 hx hb hts hown hw (h0.1) dX7_add_35 ?_
  refine lv_iload hx hb dX7_add_38 (lv_at hl 0 rfl) ?_
  refine lv_iload_n hx hb dX7_add_40 rfl (lv_at hl 3 rfl) ?_
  obtain ⟨hi_10, hp⟩ := hp
  refine r_iast hx hb hw (h0.2.2.2.2.2.2.2.2.2.2.2.2.2.2.2.2.2.2.1) hi_10 dX7_add_41 (fun I_11 H locs eI_11 hw => ?_)
  replace hp := hp I_11 eI_11
  refine lv_aload_n hx hb dX7_add_42 rfl (lv_at hl 1 rfl) ?_
  refine gf_X7_59 hx hb hts hown hw (h0.1) dX7_add_43 ?_
  refine lv_iload_n hx hb dX7_add_46 rfl (lv_at hl 2 rfl) ?_
  refine lv_dup2_11 hx hb dX7_add_47 rfl rfl ?_
  obtain ⟨hi_12, hp⟩ := hp
  refine r_iald hx hb hw (h0.2.2.2.2.2.2.2.2.2.2.2.2.2.2.2.2.2.1) hi_12 dX7_add_48 ?_
  refine lv_iconst (v := 1) hx hb dX7_add_49 (by decide) ?_
  refine lv_iadd hx hb dX7_add_50 ?_
  obtain ⟨hi_13, hp⟩ := hp
  refine r_iast hx hb hw (h0.2.2.2.2.2.2.2.2.2.2.2.2.2.2.2.2.2.1) hi_13 dX7_add_51 (fun I_14 H locs eI_14 hw => ?_)
  replace hp := hp I_14 eI_14
  refine lv_aload_n hx hb dX7_add_52 rfl (lv_at hl 1 rfl) ?_
  refine gf_X7_56 hx hb hts hown hw (h0.1) dX7_add_53 ?_
  refine lv_bipush (v := 20) hx hb dX7_add_56 (by decide) ?_
  refine lv_iload_n hx hb dX7_add_58 rfl (lv_at hl 2 rfl) ?_
  refine lv_imul hx hb dX7_add_59 ?_
  refine lv_aload_n hx hb dX7_add_60 rfl (lv_at hl 1 rfl) ?_
  refine gf_X7_47 hx hb hts hown hw (h0.1) dX7_add_61 ?_
  refine lv_iload_n hx hb dX7_add_64 rfl (lv_at hl 2 rfl) ?_
  obtain ⟨hi_15, hp⟩ := hp
  refine r_iald hx hb hw (h0.2.2.2.2.2.2.2.2.2.2.2.2.2.1) hi_15 dX7_add_65 ?_
  refine lv_iadd hx hb dX7_add_66 ?_
  refine lv_iconst (v := 1) hx hb dX7_add_67 (by decide) ?_
  refine lv_isub hx hb dX7_add_68 ?_
  refine lv_topi (fun x_16 ex_16 => ?_)
  replace hp := hp x_16 ex_16
  refine lv_dup2_11 hx hb dX7_add_69 rfl rfl ?_
  obtain ⟨hi_17, hp⟩ := hp
  refine r_iald hx hb hw (h0.2.2.2.2.2.2.2.2.2.2.2.2.2.2.2.2.1) hi_17 dX7_add_70 ?_
  refine lv_iconst (v := 1) hx hb dX7_add_71 (by decide) ?_
  refine lv_iadd hx hb dX7_add_72 ?_
  obtain ⟨hi_18, hp⟩ := hp
  refine r_iast hx hb hw (h0.2.2.2.2.2.2.2.2.2.2.2.2.2.2.2.2.1) hi_18 dX7_add_73 (fun I_19 H locs eI_19 hw => ?_)
  replace hp := hp I_19 eI_19
  refine lv_aload_n hx hb dX7_add_74 rfl (lv_at hl 1 rfl) ?_
  refine gf_X7_65 hx hb hts hown hw (h0.1) dX7_add_75 ?_
  refine lv_iload hx hb dX7_add_78 (lv_at hl 0 rfl) ?_
  obtain ⟨hi_20, hp⟩ := hp
  refine r_iald hx hb hw (h0.2.2.2.2.2.2.2.2.2.2.2.2.2.2.2.2.2.2.2.1) hi_20 dX7_add_80 ?_
  exact r_iret hx hb hr hlocks hw hp dX7_add_81
