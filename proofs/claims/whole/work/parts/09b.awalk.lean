section CWN
variable {R : Room} {s : State} {args : Array Value}
theorem cw_X6_19 (hts : ∀ w ∈ wsA, w.before args s = true) (hR : 3 + 1 ≤ R.frames ∧ 8 + (2 + 11) + 54 ≤ R.locals) : CallB R s args RX6 19 yX5_init cX5_init 2 none (wM yX5_init cX5_init 2 none) (rmB 3 133 2151 54) 133 2151 0 ∧ yX5_init.name = "<init>" ∧ (Cond.instanceMethod yX5_init).before args s = true :=
  cwI 0 hts (lk_C k_75) rfl rfl rfl (hts _ k_37) (hts _ k_73) (hts _ k_74) rfl (by decide +kernel) hR
theorem cw_X1_34 {G : GX} {Sh : SH} {I : MI} {L : ML} {H : Heap} {locs : List Loc} (hts : ∀ w ∈ wsA, w.before args s = true) (hw : mW G Sh s I L H locs) (hR : 1 + 1 ≤ R.frames ∧ 8 + (1 + 11) + 14 ≤ R.locals) : va_CN R s args RX1 34 yX2_init "AlignRows" cX2_init 1 none (wM yX2_init cX2_init 1 none) (rmB 1 25 240 14) 25 240 0 ∧ yX2_init.name = "<init>" ∧ (Cond.instanceMethod yX2_init).before args s = true :=
  ⟨va_cnB 0 hts (lk_C k_129) rfl rfl rfl (hw.nw n_127) (hts _ k_40) (by decide +kernel) hR, rfl, hts _ k_128⟩
theorem cw_X5_11 {G : GX} {Sh : SH} {I : MI} {L : ML} {H : Heap} {locs : List Loc} (hts : ∀ w ∈ wsA, w.before args s = true) (hw : mW G Sh s I L H locs) (hR : 1 + 1 ≤ R.frames ∧ 8 + (1 + 11) + 14 ≤ R.locals) : va_CN R s args RX5 11 yX3_init "AlignRows" cX3_init 1 none (wM yX3_init cX3_init 1 none) (rmB 1 3 64 14) 3 64 0 ∧ yX3_init.name = "<init>" ∧ (Cond.instanceMethod yX3_init).before args s = true :=
  ⟨va_cnB 0 hts (lk_C k_81) rfl rfl rfl (hw.nw n_79) (hts _ k_38) (by decide +kernel) hR, rfl, hts _ k_80⟩
theorem cw_X5_36 {G : GX} {Sh : SH} {I : MI} {L : ML} {H : Heap} {locs : List Loc} (hts : ∀ w ∈ wsA, w.before args s = true) (hw : mW G Sh s I L H locs) (hR : 2 + 1 ≤ R.frames ∧ 8 + (1 + 11) + 34 ≤ R.locals) : va_CN R s args RX5 36 yX1_init "AlignRows" cX1_init 1 none (wM yX1_init cX1_init 1 none) (rmB 2 32 388 34) 32 388 0 ∧ yX1_init.name = "<init>" ∧ (Cond.instanceMethod yX1_init).before args s = true :=
  ⟨va_cnB 0 hts (lk_C k_123) rfl rfl rfl (hw.nw n_121) (hts _ k_39) (by decide +kernel) hR, rfl, hts _ k_122⟩
theorem cw_X5_55 {G : GX} {Sh : SH} {I : MI} {L : ML} {H : Heap} {locs : List Loc} (hts : ∀ w ∈ wsA, w.before args s = true) (hw : mW G Sh s I L H locs) (hR : 1 + 1 ≤ R.frames ∧ 8 + (1 + 11) + 14 ≤ R.locals) : va_CN R s args RX5 55 yX0_init "AlignRows" cX0_init 1 none (wM yX0_init cX0_init 1 none) (rmB 1 0 0 14) 0 0 0 ∧ yX0_init.name = "<init>" ∧ (Cond.instanceMethod yX0_init).before args s = true :=
  ⟨va_cnB 0 hts (lk_C k_185) rfl rfl rfl (hw.nw n_183) (hts _ k_41) (by decide +kernel) hR, rfl, hts _ k_184⟩
theorem cw_X5_56 {G : GX} {Sh : SH} {I : MI} {L : ML} {H : Heap} {locs : List Loc} (hts : ∀ w ∈ wsA, w.before args s = true) (hw : mW G Sh s I L H locs) (hR : 1 + 1 ≤ R.frames ∧ 8 + (1 + 11) + 14 ≤ R.locals) : va_CN R s args RX5 56 yX4_init "AlignRows" cX4_init 1 none (wM yX4_init cX4_init 1 none) (rmB 1 3 72 14) 3 72 0 ∧ yX4_init.name = "<init>" ∧ (Cond.instanceMethod yX4_init).before args s = true :=
  ⟨va_cnB 0 hts (lk_C k_211) rfl rfl rfl (hw.nw n_209) (hts _ k_42) (by decide +kernel) hR, rfl, hts _ k_210⟩
end CWN
set_option maxHeartbeats 4000000 in
set_option maxRecDepth 100000 in
theorem c_X0_init (l : Launch) (G : GX) {z : Nat} {Sh : SH} {a0 : Nat} (h0 : Sh a0 = some sGlue) {I : MI} {L : ML} {K : Nat → SH → MI → ML → Prop} (hp : wp_X0_init G z Sh a0 I L K) : CtN l yX0_init (wM yX0_init cX0_init 1 none) (rmB 1 0 0 14) G z Sh [.ref a0] I L K 0 0 := by
  refine ofN (own := RX0) (by decide) rfl (Nat.le_of_ble_eq_true rfl) ?_
  intro p e s m args below meth c ls C hin hw hz hl
  obtain ⟨hx, hb, hr, hml, hown, hts, hlocks⟩ := id C
  replace hl : lv_has ls 1 [(0, .ref a0)] := hl
  unfold wp_X0_init at hp
  refine lv_aload_n hx hb dX0_init_0 rfl (lv_at hl 0 rfl) ?_
  refine W.objInit hx hb hown (hts _ k_186) (hts _ k_57) (hts _ k_58) rfl (by rw [hml]; exact hl.1) rfl dX0_init_1 (Nat.le_of_ble_eq_true rfl) (Nat.le_of_ble_eq_true rfl) ?_
  refine W.eq (g2 := F0 m 4 ls []) rfl ?_
  refine lv_aload_n hx hb dX0_init_4 rfl (lv_at hl 0 rfl) ?_
  refine lv_iconst (v := 0) hx hb dX0_init_5 (by decide) ?_
  have hz0 := hz
  refine r_putiz hz (C := RX0) (T := TX0) (N := 5) hx hb hts hown i_X0 tyX0 tyX0_ok nmX0 hw (h0) rfl rfl 0 (by decide) (hts _ k_187) rfl rfl rfl rfl (Nat.le_of_ble_eq_true rfl) rfl dX0_init_6 (fun I_1 H locs eI_1 hw hz => ?_)
  replace hp := hp I_1 eI_1
  refine lv_aload_n hx hb dX0_init_9 rfl (lv_at hl 0 rfl) ?_
  refine lv_iconst (v := 0) hx hb dX0_init_10 (by decide) ?_
  have hz0 := hz
  refine r_putiz hz (C := RX0) (T := TX0) (N := 5) hx hb hts hown i_X0 tyX0 tyX0_ok nmX0 hw (h0) rfl rfl 1 (by decide) (hts _ k_189) rfl rfl rfl rfl (Nat.le_of_ble_eq_true rfl) rfl dX0_init_11 (fun I_2 H locs eI_2 hw hz => ?_)
  replace hp := hp I_2 eI_2
  refine lv_aload_n hx hb dX0_init_14 rfl (lv_at hl 0 rfl) ?_
  refine lv_iconst (v := 0) hx hb dX0_init_15 (by decide) ?_
  have hz0 := hz
  refine r_putiz hz (C := RX0) (T := TX0) (N := 5) hx hb hts hown i_X0 tyX0 tyX0_ok nmX0 hw (h0) rfl rfl 2 (by decide) (hts _ k_191) rfl rfl rfl rfl (Nat.le_of_ble_eq_true rfl) rfl dX0_init_16 (fun I_3 H locs eI_3 hw hz => ?_)
  replace hp := hp I_3 eI_3
  refine lv_aload_n hx hb dX0_init_19 rfl (lv_at hl 0 rfl) ?_
  refine lv_iconst (v := 0) hx hb dX0_init_20 (by decide) ?_
  have hz0 := hz
  refine r_putiz hz (C := RX0) (T := TX0) (N := 5) hx hb hts hown i_X0 tyX0 tyX0_ok nmX0 hw (h0) rfl rfl 3 (by decide) (hts _ k_193) rfl rfl rfl rfl (Nat.le_of_ble_eq_true rfl) rfl dX0_init_21 (fun I_4 H locs eI_4 hw hz => ?_)
  replace hp := hp I_4 eI_4
  refine lv_aload_n hx hb dX0_init_24 rfl (lv_at hl 0 rfl) ?_
  refine lv_iconst (v := 0) hx hb dX0_init_25 (by decide) ?_
  have hz0 := hz
  refine r_putiz hz (C := RX0) (T := TX0) (N := 5) hx hb hts hown i_X0 tyX0 tyX0_ok nmX0 hw (h0) rfl rfl 4 (by decide) (hts _ k_195) rfl rfl rfl rfl (Nat.le_of_ble_eq_true rfl) rfl dX0_init_26 (fun I_5 H locs eI_5 hw hz => ?_)
  replace hp := hp I_5 eI_5
  exact r_vretN hx hb hr hlocks hw hz hp dX0_init_29
set_option maxHeartbeats 4000000 in
set_option maxRecDepth 100000 in
theorem c_X2_init (l : Launch) (G : GX) {z : Nat} {Sh : SH} {a0 : Nat} (h0 : Sh a0 = some (sNeedsK 0 a0)) {I : MI} {L : ML} {K : Nat → SH → MI → ML → Prop} (hp : wp_X2_init G z Sh a0 I L K) : CtN l yX2_init (wM yX2_init cX2_init 1 none) (rmB 1 25 240 14) G z Sh [.ref a0] I L K 25 240 := by
  refine ofN (own := RX2) (by decide) rfl (Nat.le_of_ble_eq_true rfl) ?_
  intro p e s m args below meth c ls C hin hw hz hl
  obtain ⟨hx, hb, hr, hml, hown, hts, hlocks⟩ := id C
  replace hl : lv_has ls 1 [(0, .ref a0)] := hl
  unfold wp_X2_init at hp
  refine lv_aload_n hx hb dX2_init_0 rfl (lv_at hl 0 rfl) ?_
  refine W.objInit hx hb hown (hts _ k_130) (hts _ k_57) (hts _ k_58) rfl (by rw [hml]; exact hl.1) rfl dX2_init_1 (Nat.le_of_ble_eq_true rfl) (Nat.le_of_ble_eq_true rfl) ?_
  refine W.eq (g2 := F0 m 4 ls []) rfl ?_
  refine lv_aload_n hx hb dX2_init_4 rfl (lv_at hl 0 rfl) ?_
  refine lv_bipush (v := 24) hx hb dX2_init_5 (by decide) ?_
  refine lv_bipush (v := 9) hx hb dX2_init_7 (by decide) ?_
  obtain ⟨hk_4, hp⟩ := hp
  refine r_mna (N' := 24) (K' := 9) hx hb hown (hts _ k_131) (hw.2.2.2.2.2 _ o_132) (hts _ k_114) hw hz (by decide) (by decide) (by decide) (by decide) (Nat.le_of_ble_eq_true rfl) (Nat.le_of_ble_eq_true rfl) (Nat.le_of_ble_eq_true rfl) (by have := hk_4.1; exact this) (by have := hk_4.2; exact this) dX2_init_9 (fun S_1 I_2 H eS_1 eI_2 hw1 hz1 => ?_)
  replace hp := hp S_1 eS_1 I_2 eI_2
  have hs_6 := sh_mna hw hz (h0) eS_1
  have hs_5 : S_1 z = some (sQ G 7 24 (fun i => if i < 24 then some (z + 1 + i) else none)) := by rw [eS_1]; exact shm_at _ _ _ _ _
  have hw := hw1
  have hz := hz1
  obtain ⟨hv_8, hp⟩ := hp
  refine r_putF (C := RX2) (T := TX2) (N := 1) hx hb hts hown i_X2 tyX2 tyX2_ok nmX2 hw (hs_6) rfl rfl 0 (by decide) (hts _ k_133) rfl rfl hin rfl rfl (Nat.le_of_ble_eq_true rfl) (sNeedsK 1 a0) (by rw [hv_8]; rfl) dX2_init_13 (fun S_7 H locs eS_7 hw hz1 => ?_)
  replace hp := hp S_7 eS_7
  replace hz := hz1.trans hz
  have hs_9 : S_7 a0 = some (sNeedsK 1 a0) := by rw [eS_7]; exact shu_at _ _ _
  exact r_vretN hx hb hr hlocks hw hz hp dX2_init_16
set_option maxHeartbeats 4000000 in
set_option maxRecDepth 100000 in
theorem c_X3_init (l : Launch) (G : GX) {z : Nat} {Sh : SH} {a0 : Nat} (h0 : Sh a0 = some (sPreK 0 a0)) {I : MI} {L : ML} {K : Nat → SH → MI → ML → Prop} (hp : wp_X3_init G z Sh a0 I L K) : CtN l yX3_init (wM yX3_init cX3_init 1 none) (rmB 1 3 64 14) G z Sh [.ref a0] I L K 3 64 := by
  refine ofN (own := RX3) (by decide) rfl (Nat.le_of_ble_eq_true rfl) ?_
  intro p e s m args below meth c ls C hin hw hz hl
  obtain ⟨hx, hb, hr, hml, hown, hts, hlocks⟩ := id C
  replace hl : lv_has ls 1 [(0, .ref a0)] := hl
  unfold wp_X3_init at hp
  refine lv_aload_n hx hb dX3_init_0 rfl (lv_at hl 0 rfl) ?_
  refine W.objInit hx hb hown (hts _ k_82) (hts _ k_57) (hts _ k_58) rfl (by rw [hml]; exact hl.1) rfl dX3_init_1 (Nat.le_of_ble_eq_true rfl) (Nat.le_of_ble_eq_true rfl) ?_
  refine W.eq (g2 := F0 m 4 ls []) rfl ?_
  refine lv_aload_n hx hb dX3_init_4 rfl (lv_at hl 0 rfl) ?_
  refine lv_bipush (v := 40) hx hb dX3_init_5 (by decide) ?_
  obtain ⟨hk_4, hp⟩ := hp
  refine r_newC (N' := 40) hx hb (hts _ k_113) hw hz (by decide) (by decide) (Nat.le_of_ble_eq_true rfl) hk_4.1 hk_4.2 dX3_init_7 (fun S_1 I_2 L_3 H eS_1 eI_2 eL_3 hw1 hz1 => ?_)
  replace hp := hp S_1 eS_1 I_2 eI_2 L_3 eL_3
  have hs_6 := sh_new hw hz (h0) eS_1
  have hs_5 : S_1 z = some (sC G 40) := by rw [eS_1]; exact shu_at _ _ _
  have hw := hw1
  have hz := hz1
  obtain ⟨hv_8, hp⟩ := hp
  refine r_putF (C := RX3) (T := TX3) (N := 8) hx hb hts hown i_X3 tyX3 tyX3_ok nmX3 hw (hs_6) rfl rfl 0 (by decide) (hts _ k_83) rfl rfl hin rfl rfl (Nat.le_of_ble_eq_true rfl) (sPreK 1 a0) (by rw [hv_8]; rfl) dX3_init_9 (fun S_7 H locs eS_7 hw hz1 => ?_)
  replace hp := hp S_7 eS_7
  replace hz := hz1.trans hz
  have hs_9 : S_7 a0 = some (sPreK 1 a0) := by rw [eS_7]; exact shu_at _ _ _
  refine lv_aload_n hx hb dX3_init_12 rfl (lv_at hl 0 rfl) ?_
  refine lv_bipush (v := 12) hx hb dX3_init_13 (by decide) ?_
  obtain ⟨hk_13, hp⟩ := hp
  refine r_newI (N' := 12) hx hb (hts _ k_114) hw hz (by decide) (by decide) (Nat.le_of_ble_eq_true rfl) hk_13.1 hk_13.2 dX3_init_15 (fun S_10 I_11 L_12 H eS_10 eI_11 eL_12 hw1 hz1 => ?_)
  replace hp := hp S_10 eS_10 I_11 eI_11 L_12 eL_12
  have hs_15 := sh_new hw hz (hs_9) eS_10
  have hs_14 : S_10 (z + 1) = some (sI G 12) := by rw [eS_10]; exact shu_at _ _ _
  have hw := hw1
  have hz := hz1
  obtain ⟨hv_17, hp⟩ := hp
  refine r_putF (C := RX3) (T := TX3) (N := 8) hx hb hts hown i_X3 tyX3 tyX3_ok nmX3 hw (hs_15) rfl rfl 1 (by decide) (hts _ k_84) rfl rfl hin rfl rfl (Nat.le_of_ble_eq_true rfl) (sPreK 2 a0) (by rw [hv_17]; rfl) dX3_init_17 (fun S_16 H locs eS_16 hw hz1 => ?_)
  replace hp := hp S_16 eS_16
  replace hz := hz1.trans hz
  have hs_18 : S_16 a0 = some (sPreK 2 a0) := by rw [eS_16]; exact shu_at _ _ _
  refine lv_aload_n hx hb dX3_init_20 rfl (lv_at hl 0 rfl) ?_
  refine lv_bipush (v := 12) hx hb dX3_init_21 (by decide) ?_
  obtain ⟨hk_22, hp⟩ := hp
  refine r_newI (N' := 12) hx hb (hts _ k_114) hw hz (by decide) (by decide) (Nat.le_of_ble_eq_true rfl) hk_22.1 hk_22.2 dX3_init_23 (fun S_19 I_20 L_21 H eS_19 eI_20 eL_21 hw1 hz1 => ?_)
  replace hp := hp S_19 eS_19 I_20 eI_20 L_21 eL_21
  have hs_24 := sh_new hw hz (hs_18) eS_19
  have hs_23 : S_19 (z + 2) = some (sI G 12) := by rw [eS_19]; exact shu_at _ _ _
  have hw := hw1
  have hz := hz1
  obtain ⟨hv_26, hp⟩ := hp
  refine r_putF (C := RX3) (T := TX3) (N := 8) hx hb hts hown i_X3 tyX3 tyX3_ok nmX3 hw (hs_24) rfl rfl 2 (by decide) (hts _ k_85) rfl rfl hin rfl rfl (Nat.le_of_ble_eq_true rfl) (sPreK 3 a0) (by rw [hv_26]; rfl) dX3_init_25 (fun S_25 H locs eS_25 hw hz1 => ?_)
  replace hp := hp S_25 eS_25
  replace hz := hz1.trans hz
  have hs_27 : S_25 a0 = some (sPreK 3 a0) := by rw [eS_25]; exact shu_at _ _ _
  refine lv_aload_n hx hb dX3_init_28 rfl (lv_at hl 0 rfl) ?_
  refine lv_iconst (v := 0) hx hb dX3_init_29 (by decide) ?_
  have hz0 := hz
  refine r_putiz hz (C := RX3) (T := TX3) (N := 8) hx hb hts hown i_X3 tyX3 tyX3_ok nmX3 hw (hs_27) rfl rfl 3 (by decide) (hts _ k_86) rfl rfl rfl rfl (Nat.le_of_ble_eq_true rfl) rfl dX3_init_30 (fun I_28 H locs eI_28 hw hz => ?_)
  replace hp := hp I_28 eI_28
  refine lv_aload_n hx hb dX3_init_33 rfl (lv_at hl 0 rfl) ?_
  refine lv_iconst (v := 0) hx hb dX3_init_34 (by decide) ?_
  have hz0 := hz
  refine r_putiz hz (C := RX3) (T := TX3) (N := 8) hx hb hts hown i_X3 tyX3 tyX3_ok nmX3 hw (hs_27) rfl rfl 4 (by decide) (hts _ k_88) rfl rfl (nar_z (Or.inl rfl)) (fits_z (Or.inl rfl)) (Nat.le_of_ble_eq_true rfl) rfl dX3_init_35 (fun I_29 H locs eI_29 hw hz => ?_)
  replace hp := hp I_29 eI_29
  refine lv_aload_n hx hb dX3_init_38 rfl (lv_at hl 0 rfl) ?_
  refine lv_iconst (v := 0) hx hb dX3_init_39 (by decide) ?_
  have hz0 := hz
  refine r_putiz hz (C := RX3) (T := TX3) (N := 8) hx hb hts hown i_X3 tyX3 tyX3_ok nmX3 hw (hs_27) rfl rfl 5 (by decide) (hts _ k_90) rfl rfl rfl rfl (Nat.le_of_ble_eq_true rfl) rfl dX3_init_40 (fun I_30 H locs eI_30 hw hz => ?_)
  replace hp := hp I_30 eI_30
  refine lv_aload_n hx hb dX3_init_43 rfl (lv_at hl 0 rfl) ?_
  refine lv_iconst (v := (-1)) hx hb dX3_init_44 (by decide) ?_
  have hz0 := hz
  refine r_putiz hz (C := RX3) (T := TX3) (N := 8) hx hb hts hown i_X3 tyX3 tyX3_ok nmX3 hw (hs_27) rfl rfl 6 (by decide) (hts _ k_93) rfl rfl rfl rfl (Nat.le_of_ble_eq_true rfl) rfl dX3_init_45 (fun I_31 H locs eI_31 hw hz => ?_)
  replace hp := hp I_31 eI_31
  refine lv_aload_n hx hb dX3_init_48 rfl (lv_at hl 0 rfl) ?_
  refine lv_iconst (v := 0) hx hb dX3_init_49 (by decide) ?_
  have hz0 := hz
  refine r_putiz hz (C := RX3) (T := TX3) (N := 8) hx hb hts hown i_X3 tyX3 tyX3_ok nmX3 hw (hs_27) rfl rfl 7 (by decide) (hts _ k_95) rfl rfl (nar_z (Or.inl rfl)) (fits_z (Or.inl rfl)) (Nat.le_of_ble_eq_true rfl) rfl dX3_init_50 (fun I_32 H locs eI_32 hw hz => ?_)
  replace hp := hp I_32 eI_32
  exact r_vretN hx hb hr hlocks hw hz hp dX3_init_53
set_option maxHeartbeats 4000000 in
set_option maxRecDepth 100000 in
theorem c_X4_init (l : Launch) (G : GX) {z : Nat} {Sh : SH} {a0 : Nat} (h0 : Sh a0 = some (sRowK 0 a0)) {I : MI} {L : ML} {K : Nat → SH → MI → ML → Prop} (hp : wp_X4_init G z Sh a0 I L K) : CtN l yX4_init (wM yX4_init cX4_init 1 none) (rmB 1 3 72 14) G z Sh [.ref a0] I L K 3 72 := by
  refine ofN (own := RX4) (by decide) rfl (Nat.le_of_ble_eq_true rfl) ?_
  intro p e s m args below meth c ls C hin hw hz hl
  obtain ⟨hx, hb, hr, hml, hown, hts, hlocks⟩ := id C
  replace hl : lv_has ls 1 [(0, .ref a0)] := hl
  unfold wp_X4_init at hp
  refine lv_aload_n hx hb dX4_init_0 rfl (lv_at hl 0 rfl) ?_
  refine W.objInit hx hb hown (hts _ k_212) (hts _ k_57) (hts _ k_58) rfl (by rw [hml]; exact hl.1) rfl dX4_init_1 (Nat.le_of_ble_eq_true rfl) (Nat.le_of_ble_eq_true rfl) ?_
  refine W.eq (g2 := F0 m 4 ls []) rfl ?_
  refine lv_aload_n hx hb dX4_init_4 rfl (lv_at hl 0 rfl) ?_
  refine lv_bipush (v := 24) hx hb dX4_init_5 (by decide) ?_
  obtain ⟨hk_4, hp⟩ := hp
  refine r_newI (N' := 24) hx hb (hts _ k_114) hw hz (by decide) (by decide) (Nat.le_of_ble_eq_true rfl) hk_4.1 hk_4.2 dX4_init_7 (fun S_1 I_2 L_3 H eS_1 eI_2 eL_3 hw1 hz1 => ?_)
  replace hp := hp S_1 eS_1 I_2 eI_2 L_3 eL_3
  have hs_6 := sh_new hw hz (h0) eS_1
  have hs_5 : S_1 z = some (sI G 24) := by rw [eS_1]; exact shu_at _ _ _
  have hw := hw1
  have hz := hz1
  obtain ⟨hv_8, hp⟩ := hp
  refine r_putF (C := RX4) (T := TX4) (N := 5) hx hb hts hown i_X4 tyX4 tyX4_ok nmX4 hw (hs_6) rfl rfl 0 (by decide) (hts _ k_213) rfl rfl hin rfl rfl (Nat.le_of_ble_eq_true rfl) (sRowK 1 a0) (by rw [hv_8]; rfl) dX4_init_9 (fun S_7 H locs eS_7 hw hz1 => ?_)
  replace hp := hp S_7 eS_7
  replace hz := hz1.trans hz
  have hs_9 : S_7 a0 = some (sRowK 1 a0) := by rw [eS_7]; exact shu_at _ _ _
  refine lv_aload_n hx hb dX4_init_12 rfl (lv_at hl 0 rfl) ?_
  refine lv_bipush (v := 24) hx hb dX4_init_13 (by decide) ?_
  obtain ⟨hk_13, hp⟩ := hp
  refine r_newI (N' := 24) hx hb (hts _ k_114) hw hz (by decide) (by decide) (Nat.le_of_ble_eq_true rfl) hk_13.1 hk_13.2 dX4_init_15 (fun S_10 I_11 L_12 H eS_10 eI_11 eL_12 hw1 hz1 => ?_)
  replace hp := hp S_10 eS_10 I_11 eI_11 L_12 eL_12
  have hs_15 := sh_new hw hz (hs_9) eS_10
  have hs_14 : S_10 (z + 1) = some (sI G 24) := by rw [eS_10]; exact shu_at _ _ _
  have hw := hw1
  have hz := hz1
  obtain ⟨hv_17, hp⟩ := hp
  refine r_putF (C := RX4) (T := TX4) (N := 5) hx hb hts hown i_X4 tyX4 tyX4_ok nmX4 hw (hs_15) rfl rfl 1 (by decide) (hts _ k_216) rfl rfl hin rfl rfl (Nat.le_of_ble_eq_true rfl) (sRowK 2 a0) (by rw [hv_17]; rfl) dX4_init_17 (fun S_16 H locs eS_16 hw hz1 => ?_)
  replace hp := hp S_16 eS_16
  replace hz := hz1.trans hz
  have hs_18 : S_16 a0 = some (sRowK 2 a0) := by rw [eS_16]; exact shu_at _ _ _
  refine lv_aload_n hx hb dX4_init_20 rfl (lv_at hl 0 rfl) ?_
  refine lv_bipush (v := 24) hx hb dX4_init_21 (by decide) ?_
  obtain ⟨hk_22, hp⟩ := hp
  refine r_newI (N' := 24) hx hb (hts _ k_114) hw hz (by decide) (by decide) (Nat.le_of_ble_eq_true rfl) hk_22.1 hk_22.2 dX4_init_23 (fun S_19 I_20 L_21 H eS_19 eI_20 eL_21 hw1 hz1 => ?_)
  replace hp := hp S_19 eS_19 I_20 eI_20 L_21 eL_21
  have hs_24 := sh_new hw hz (hs_18) eS_19
  have hs_23 : S_19 (z + 2) = some (sI G 24) := by rw [eS_19]; exact shu_at _ _ _
  have hw := hw1
  have hz := hz1
  obtain ⟨hv_26, hp⟩ := hp
  refine r_putF (C := RX4) (T := TX4) (N := 5) hx hb hts hown i_X4 tyX4 tyX4_ok nmX4 hw (hs_24) rfl rfl 2 (by decide) (hts _ k_219) rfl rfl hin rfl rfl (Nat.le_of_ble_eq_true rfl) (sRowK 3 a0) (by rw [hv_26]; rfl) dX4_init_25 (fun S_25 H locs eS_25 hw hz1 => ?_)
  replace hp := hp S_25 eS_25
  replace hz := hz1.trans hz
  have hs_27 : S_25 a0 = some (sRowK 3 a0) := by rw [eS_25]; exact shu_at _ _ _
  refine lv_aload_n hx hb dX4_init_28 rfl (lv_at hl 0 rfl) ?_
  refine lv_iconst (v := 0) hx hb dX4_init_29 (by decide) ?_
  have hz0 := hz
  refine r_putiz hz (C := RX4) (T := TX4) (N := 5) hx hb hts hown i_X4 tyX4 tyX4_ok nmX4 hw (hs_27) rfl rfl 3 (by decide) (hts _ k_222) rfl rfl rfl rfl (Nat.le_of_ble_eq_true rfl) rfl dX4_init_30 (fun I_28 H locs eI_28 hw hz => ?_)
  replace hp := hp I_28 eI_28
  refine lv_aload_n hx hb dX4_init_33 rfl (lv_at hl 0 rfl) ?_
  refine lv_iconst (v := 0) hx hb dX4_init_34 (by decide) ?_
  have hz0 := hz
  refine r_putiz hz (C := RX4) (T := TX4) (N := 5) hx hb hts hown i_X4 tyX4 tyX4_ok nmX4 hw (hs_27) rfl rfl 4 (by decide) (hts _ k_225) rfl rfl rfl rfl (Nat.le_of_ble_eq_true rfl) rfl dX4_init_35 (fun I_29 H locs eI_29 hw hz => ?_)
  replace hp := hp I_29 eI_29
  exact r_vretN hx hb hr hlocks hw hz hp dX4_init_38
set_option maxHeartbeats 4000000 in
set_option maxRecDepth 100000 in
theorem c_X1_init (l : Launch) (G : GX) {z : Nat} {Sh : SH} {a0 : Nat} (h0 : Sh a0 = some (sLastK 0 a0)) {I : MI} {L : ML} {K : Nat → SH → MI → ML → Prop} (hp : wp_X1_init G z Sh a0 I L K) : CtN l yX1_init (wM yX1_init cX1_init 1 none) (rmB 2 32 388 34) G z Sh [.ref a0] I L K 32 388 := by
  refine ofN (own := RX1) (by decide) rfl (Nat.le_of_ble_eq_true rfl) ?_
  intro p e s m args below meth c ls C hin hw hz hl
  obtain ⟨hx, hb, hr, hml, hown, hts, hlocks⟩ := id C
  replace hl : lv_has ls 1 [(0, .ref a0)] := hl
  unfold wp_X1_init at hp
  refine lv_aload_n hx hb dX1_init_0 rfl (lv_at hl 0 rfl) ?_
  refine W.objInit hx hb hown (hts _ k_124) (hts _ k_57) (hts _ k_58) rfl (by rw [hml]; exact hl.1) rfl dX1_init_1 (Nat.le_of_ble_eq_true rfl) (Nat.le_of_ble_eq_true rfl) ?_
  refine W.eq (g2 := F0 m 4 ls []) rfl ?_
  refine lv_aload_n hx hb dX1_init_4 rfl (lv_at hl 0 rfl) ?_
  refine lv_bipush (v := 24) hx hb dX1_init_5 (by decide) ?_
  obtain ⟨hk_4, hp⟩ := hp
  refine r_newI (N' := 24) hx hb (hts _ k_114) hw hz (by decide) (by decide) (Nat.le_of_ble_eq_true rfl) hk_4.1 hk_4.2 dX1_init_7 (fun S_1 I_2 L_3 H eS_1 eI_2 eL_3 hw1 hz1 => ?_)
  replace hp := hp S_1 eS_1 I_2 eI_2 L_3 eL_3
  have hs_6 := sh_new hw hz (h0) eS_1
  have hs_5 : S_1 z = some (sI G 24) := by rw [eS_1]; exact shu_at _ _ _
  have hw := hw1
  have hz := hz1
  obtain ⟨hv_8, hp⟩ := hp
  refine r_putF (C := RX1) (T := TX1) (N := 13) hx hb hts hown i_X1 tyX1 tyX1_ok nmX1 hw (hs_6) rfl rfl 0 (by decide) (hts _ k_139) rfl rfl hin rfl rfl (Nat.le_of_ble_eq_true rfl) (sLastK 1 a0) (by rw [hv_8]; rfl) dX1_init_9 (fun S_7 H locs eS_7 hw hz1 => ?_)
  replace hp := hp S_7 eS_7
  replace hz := hz1.trans hz
  have hs_9 : S_7 a0 = some (sLastK 1 a0) := by rw [eS_7]; exact shu_at _ _ _
  refine lv_aload_n hx hb dX1_init_12 rfl (lv_at hl 0 rfl) ?_
  refine lv_bipush (v := 24) hx hb dX1_init_13 (by decide) ?_
  obtain ⟨hk_13, hp⟩ := hp
  refine r_newZ (N' := 24) hx hb (hts _ k_137) hw hz (by decide) (by decide) (Nat.le_of_ble_eq_true rfl) hk_13.1 hk_13.2 dX1_init_15 (fun S_10 I_11 L_12 H eS_10 eI_11 eL_12 hw1 hz1 => ?_)
  replace hp := hp S_10 eS_10 I_11 eI_11 L_12 eL_12
  have hs_15 := sh_new hw hz (hs_9) eS_10
  have hs_14 : S_10 (z + 1) = some (sZ G 24) := by rw [eS_10]; exact shu_at _ _ _
  have hw := hw1
  have hz := hz1
  obtain ⟨hv_17, hp⟩ := hp
  refine r_putF (C := RX1) (T := TX1) (N := 13) hx hb hts hown i_X1 tyX1 tyX1_ok nmX1 hw (hs_15) rfl rfl 1 (by decide) (hts _ k_141) rfl rfl hin rfl rfl (Nat.le_of_ble_eq_true rfl) (sLastK 2 a0) (by rw [hv_17]; rfl) dX1_init_17 (fun S_16 H locs eS_16 hw hz1 => ?_)
  replace hp := hp S_16 eS_16
  replace hz := hz1.trans hz
  have hs_18 : S_16 a0 = some (sLastK 2 a0) := by rw [eS_16]; exact shu_at _ _ _
  refine lv_aload_n hx hb dX1_init_20 rfl (lv_at hl 0 rfl) ?_
  refine lv_bipush (v := 24) hx hb dX1_init_21 (by decide) ?_
  obtain ⟨hk_22, hp⟩ := hp
  refine r_newJ (N' := 24) hx hb (hts _ k_138) hw hz (by decide) (by decide) (Nat.le_of_ble_eq_true rfl) hk_22.1 hk_22.2 dX1_init_23 (fun S_19 I_20 L_21 H eS_19 eI_20 eL_21 hw1 hz1 => ?_)
  replace hp := hp S_19 eS_19 I_20 eI_20 L_21 eL_21
  have hs_24 := sh_new hw hz (hs_18) eS_19
  have hs_23 : S_19 (z + 2) = some (sJ G 24) := by rw [eS_19]; exact shu_at _ _ _
  have hw := hw1
  have hz := hz1
  obtain ⟨hv_26, hp⟩ := hp
  refine r_putF (C := RX1) (T := TX1) (N := 13) hx hb hts hown i_X1 tyX1 tyX1_ok nmX1 hw (hs_24) rfl rfl 2 (by decide) (hts _ k_143) rfl rfl hin rfl rfl (Nat.le_of_ble_eq_true rfl) (sLastK 3 a0) (by rw [hv_26]; rfl) dX1_init_25 (fun S_25 H locs eS_25 hw hz1 => ?_)
  replace hp := hp S_25 eS_25
  replace hz := hz1.trans hz
  have hs_27 : S_25 a0 = some (sLastK 3 a0) := by rw [eS_25]; exact shu_at _ _ _
  refine lv_aload_n hx hb dX1_init_28 rfl (lv_at hl 0 rfl) ?_
  refine lv_bipush (v := 25) hx hb dX1_init_29 (by decide) ?_
  obtain ⟨hk_31, hp⟩ := hp
  refine r_newI (N' := 25) hx hb (hts _ k_114) hw hz (by decide) (by decide) (Nat.le_of_ble_eq_true rfl) hk_31.1 hk_31.2 dX1_init_31 (fun S_28 I_29 L_30 H eS_28 eI_29 eL_30 hw1 hz1 => ?_)
  replace hp := hp S_28 eS_28 I_29 eI_29 L_30 eL_30
  have hs_33 := sh_new hw hz (hs_27) eS_28
  have hs_32 : S_28 (z + 3) = some (sI G 25) := by rw [eS_28]; exact shu_at _ _ _
  have hw := hw1
  have hz := hz1
  obtain ⟨hv_35, hp⟩ := hp
  refine r_putF (C := RX1) (T := TX1) (N := 13) hx hb hts hown i_X1 tyX1 tyX1_ok nmX1 hw (hs_33) rfl rfl 3 (by decide) (hts _ k_145) rfl rfl hin rfl rfl (Nat.le_of_ble_eq_true rfl) (sLastK 4 a0) (by rw [hv_35]; rfl) dX1_init_33 (fun S_34 H locs eS_34 hw hz1 => ?_)
  replace hp := hp S_34 eS_34
  replace hz := hz1.trans hz
  have hs_36 : S_34 a0 = some (sLastK 4 a0) := by rw [eS_34]; exact shu_at _ _ _
  refine lv_aload_n hx hb dX1_init_36 rfl (lv_at hl 0 rfl) ?_
  refine lv_bipush (v := 25) hx hb dX1_init_37 (by decide) ?_
  obtain ⟨hk_40, hp⟩ := hp
  refine r_newI (N' := 25) hx hb (hts _ k_114) hw hz (by decide) (by decide) (Nat.le_of_ble_eq_true rfl) hk_40.1 hk_40.2 dX1_init_39 (fun S_37 I_38 L_39 H eS_37 eI_38 eL_39 hw1 hz1 => ?_)
  replace hp := hp S_37 eS_37 I_38 eI_38 L_39 eL_39
  have hs_42 := sh_new hw hz (hs_36) eS_37
  have hs_41 : S_37 (z + 4) = some (sI G 25) := by rw [eS_37]; exact shu_at _ _ _
  have hw := hw1
  have hz := hz1
  obtain ⟨hv_44, hp⟩ := hp
  refine r_putF (C := RX1) (T := TX1) (N := 13) hx hb hts hown i_X1 tyX1 tyX1_ok nmX1 hw (hs_42) rfl rfl 4 (by decide) (hts _ k_146) rfl rfl hin rfl rfl (Nat.le_of_ble_eq_true rfl) (sLastK 5 a0) (by rw [hv_44]; rfl) dX1_init_41 (fun S_43 H locs eS_43 hw hz1 => ?_)
  replace hp := hp S_43 eS_43
  replace hz := hz1.trans hz
  have hs_45 : S_43 a0 = some (sLastK 5 a0) := by rw [eS_43]; exact shu_at _ _ _
  refine lv_aload_n hx hb dX1_init_44 rfl (lv_at hl 0 rfl) ?_
  refine lv_bipush (v := 25) hx hb dX1_init_45 (by decide) ?_
  obtain ⟨hk_49, hp⟩ := hp
  refine r_newI (N' := 25) hx hb (hts _ k_114) hw hz (by decide) (by decide) (Nat.le_of_ble_eq_true rfl) hk_49.1 hk_49.2 dX1_init_47 (fun S_46 I_47 L_48 H eS_46 eI_47 eL_48 hw1 hz1 => ?_)
  replace hp := hp S_46 eS_46 I_47 eI_47 L_48 eL_48
  have hs_51 := sh_new hw hz (hs_45) eS_46
  have hs_50 : S_46 (z + 5) = some (sI G 25) := by rw [eS_46]; exact shu_at _ _ _
  have hw := hw1
  have hz := hz1
  obtain ⟨hv_53, hp⟩ := hp
  refine r_putF (C := RX1) (T := TX1) (N := 13) hx hb hts hown i_X1 tyX1 tyX1_ok nmX1 hw (hs_51) rfl rfl 5 (by decide) (hts _ k_147) rfl rfl hin rfl rfl (Nat.le_of_ble_eq_true rfl) (sLastK 6 a0) (by rw [hv_53]; rfl) dX1_init_49 (fun S_52 H locs eS_52 hw hz1 => ?_)
  replace hp := hp S_52 eS_52
  replace hz := hz1.trans hz
  have hs_54 : S_52 a0 = some (sLastK 6 a0) := by rw [eS_52]; exact shu_at _ _ _
  refine lv_aload_n hx hb dX1_init_52 rfl (lv_at hl 0 rfl) ?_
  obtain ⟨hk_58, hp⟩ := hp
  refine r_new (C := RX2) (T := TX2) (N := 1) hx hb hts hown i_X2 tyX2 tyX2_ok (hts _ k_125) (hts _ k_126) (hts _ k_40) hw hz rfl (sNeedsK 0 (z + 6)) rfl (fun j hj => by rcases (show j = 0 by omega) with rfl <;> rfl) hk_58.1 hk_58.2 dX1_init_53 (fun S_55 I_56 L_57 H eS_55 eI_56 eL_57 hw1 hz1 => ?_)
  replace hp := hp S_55 eS_55 I_56 eI_56 L_57 eL_57
  have hs_60 := sh_new hw hz (hs_54) eS_55
  have hs_59 : S_55 (z + 6) = some (sNeedsK 0 (z + 6)) := by rw [eS_55]; exact shu_at _ _ _
  have hw := hw1
  have hz := hz1
  refine lv_dup hx hb dX1_init_56 rfl ?_
  obtain ⟨hk_65, hp⟩ := hp
  refine r_cnN (As := []) ⟨hx, hb, hml, hown, hts⟩ (c_X2_init l G (hs_59) hp) (cw_X1_34 hts hw ⟨Nat.le_of_ble_eq_true rfl, Nat.le_of_ble_eq_true rfl⟩) hw hz rfl rfl hl.1 (Nat.le_of_ble_eq_true rfl) hk_65 dX1_init_57 (fun z_61 S_62 I_63 L_64 H locs hp hw hz => ?_)
  obtain ⟨hs_66, hs_67, hp⟩ := hp
  obtain ⟨hv_69, hp⟩ := hp
  refine r_putF (C := RX1) (T := TX1) (N := 13) hx hb hts hown i_X1 tyX1 tyX1_ok nmX1 hw (hs_66) rfl rfl 6 (by decide) (hts _ k_148) rfl rfl hin rfl rfl (Nat.le_of_ble_eq_true rfl) (sLastK 7 a0) (by rw [hv_69]; rfl) dX1_init_60 (fun S_68 H locs eS_68 hw hz1 => ?_)
  replace hp := hp S_68 eS_68
  replace hz := hz1.trans hz
  have hs_70 : S_68 a0 = some (sLastK 7 a0) := by rw [eS_68]; exact shu_at _ _ _
  refine lv_aload_n hx hb dX1_init_63 rfl (lv_at hl 0 rfl) ?_
  refine lv_iconst (v := 0) hx hb dX1_init_64 (by decide) ?_
  have hz0 := hz
  refine r_putiz hz (C := RX1) (T := TX1) (N := 13) hx hb hts hown i_X1 tyX1 tyX1_ok nmX1 hw (hs_70) rfl rfl 7 (by decide) (hts _ k_149) rfl rfl rfl rfl (Nat.le_of_ble_eq_true rfl) rfl dX1_init_65 (fun I_71 H locs eI_71 hw hz => ?_)
  replace hp := hp I_71 eI_71
  refine lv_aload_n hx hb dX1_init_68 rfl (lv_at hl 0 rfl) ?_
  refine lv_iconst (v := 0) hx hb dX1_init_69 (by decide) ?_
  have hz0 := hz
  refine r_putiz hz (C := RX1) (T := TX1) (N := 13) hx hb hts hown i_X1 tyX1 tyX1_ok nmX1 hw (hs_70) rfl rfl 8 (by decide) (hts _ k_150) rfl rfl rfl rfl (Nat.le_of_ble_eq_true rfl) rfl dX1_init_70 (fun I_72 H locs eI_72 hw hz => ?_)
  replace hp := hp I_72 eI_72
  refine lv_aload_n hx hb dX1_init_73 rfl (lv_at hl 0 rfl) ?_
  refine lv_lconst (v := 0) hx hb dX1_init_74 (by decide) ?_
  refine r_putjz hz (C := RX1) (T := TX1) (N := 13) hx hb hts hown i_X1 tyX1 tyX1_ok nmX1 hw (hs_70) rfl rfl 9 (by decide) (hts _ k_151) rfl rfl rfl rfl (Nat.le_of_ble_eq_true rfl) rfl dX1_init_75 (fun L_73 H locs eL_73 hw hz => ?_)
  replace hp := hp L_73 eL_73
  refine lv_aload_n hx hb dX1_init_78 rfl (lv_at hl 0 rfl) ?_
  refine lv_lconst (v := 0) hx hb dX1_init_79 (by decide) ?_
  refine r_putjz hz (C := RX1) (T := TX1) (N := 13) hx hb hts hown i_X1 tyX1 tyX1_ok nmX1 hw (hs_70) rfl rfl 10 (by decide) (hts _ k_152) rfl rfl rfl rfl (Nat.le_of_ble_eq_true rfl) rfl dX1_init_80 (fun L_74 H locs eL_74 hw hz => ?_)
  replace hp := hp L_74 eL_74
  refine lv_aload_n hx hb dX1_init_83 rfl (lv_at hl 0 rfl) ?_
  refine lv_iconst (v := (-1)) hx hb dX1_init_84 (by decide) ?_
  have hz0 := hz
  refine r_putiz hz (C := RX1) (T := TX1) (N := 13) hx hb hts hown i_X1 tyX1 tyX1_ok nmX1 hw (hs_70) rfl rfl 11 (by decide) (hts _ k_153) rfl rfl rfl rfl (Nat.le_of_ble_eq_true rfl) rfl dX1_init_85 (fun I_75 H locs eI_75 hw hz => ?_)
  replace hp := hp I_75 eI_75
  refine lv_aload_n hx hb dX1_init_88 rfl (lv_at hl 0 rfl) ?_
  refine lv_lconst (v := 0) hx hb dX1_init_89 (by decide) ?_
  refine r_putjz hz (C := RX1) (T := TX1) (N := 13) hx hb hts hown i_X1 tyX1 tyX1_ok nmX1 hw (hs_70) rfl rfl 12 (by decide) (hts _ k_154) rfl rfl rfl rfl (Nat.le_of_ble_eq_true rfl) rfl dX1_init_90 (fun L_76 H locs eL_76 hw hz => ?_)
  replace hp := hp L_76 eL_76
  exact r_vretN hx hb hr hlocks hw hz hp dX1_init_93
set_option maxHeartbeats 4000000 in
set_option maxRecDepth 100000 in
theorem w_X5_init_104 {p : Program} {l : Launch} {e : Env} {s : State} {m : MethodId} {args : Array Value} {below : List Frame} {meth : Method} {c : Code} (C : Cx p s m args meth c cX5_init none 2 RX5) (hin : meth.name = "<init>") {G : GX} {a0 : Nat} {K : Nat → SH → MI → ML → Prop} : ∀ (n z k ks : Nat) (x : Int32) (Sh : SH) (I : MI) (L : ML) (H : Heap) (locs : List Loc) (ls : Array Slot) (h0 : Sh a0 = some (sTableK 5 a0)), wp_X5_init_104 G a0 K n z k ks x Sh I L → mW G Sh s I L H locs → H.size = z → lv_has ls 2 [(0, .ref a0), (1, .int x)] → W p l e (rmB 3 133 2151 54) s m args below meth c H locs k ks (eN below G K 133 2151 args s) (F0 m 104 ls []) := by
  obtain ⟨hx, hb, hr, hml, hown, hts, hlocks⟩ := id C
  intro n
  induction n with
  | zero => intro z k ks x Sh I L H locs ls h0 hp; exact hp.elim
  | succ n hB104 =>
    intro z k ks x Sh I L H locs ls h0 hp hw hz hl
    replace hp : wb_X5_init_104 G a0 K (wp_X5_init_104 G a0 K n) z k ks x Sh I L := hp
    unfold wb_X5_init_104 at hp
    refine lv_iload_n hx hb dX5_init_104 rfl (lv_at hl 1 rfl) ?_
    refine lv_aload_n hx hb dX5_init_105 rfl (lv_at hl 0 rfl) ?_
    refine r_get (C := RX5) (T := TX5) (N := 9) hx hb hts hown i_X5 hw (h0) rfl rfl 2 (by decide) (hts _ k_244) rfl rfl dX5_init_106 ?_
    obtain ⟨F_88, hs_89, hp⟩ := hp
    refine W.eq (g2 := F0 m 109 ls [.ref (a0 + 6), .int x]) rfl ?_
    refine r_alenQ (v := (20 : Int32)) hx hb hw (hs_89) rfl rfl dX5_init_109 ?_
    refine lv_icmp_ge (tgt := 132) hx hb dX5_init_110 (by decide) (fun hc_90 => ?_) (fun hc_90 => ?_)
    · replace hp := hp.1 hc_90
      exact r_vretN hx hb hr hlocks hw hz hp dX5_init_132
    · replace hp := hp.2 hc_90
      refine lv_aload_n hx hb dX5_init_113 rfl (lv_at hl 0 rfl) ?_
      refine r_get (C := RX5) (T := TX5) (N := 9) hx hb hts hown i_X5 hw (h0) rfl rfl 2 (by decide) (hts _ k_244) rfl rfl dX5_init_114 ?_
      obtain ⟨F_91, hs_92, hp⟩ := hp
      refine W.eq (g2 := F0 m 117 ls [.ref (a0 + 6)]) rfl ?_
      refine lv_iload_n hx hb dX5_init_117 rfl (lv_at hl 1 rfl) ?_
      obtain ⟨hk_96, hp⟩ := hp
      refine r_new (C := RX4) (T := TX4) (N := 5) hx hb hts hown i_X4 tyX4 tyX4_ok (hts _ k_117) (hts _ k_208) (hts _ k_42) hw hz rfl (sRowK 0 z) rfl (fun j hj => by rcases (show j = 0 ∨ j = 1 ∨ j = 2 ∨ j = 3 ∨ j = 4 by omega) with rfl | rfl | rfl | rfl | rfl <;> rfl) hk_96.1 hk_96.2 dX5_init_118 (fun S_93 I_94 L_95 H eS_93 eI_94 eL_95 hw1 hz1 => ?_)
      replace hp := hp S_93 eS_93 I_94 eI_94 L_95 eL_95
      have hs_98 := sh_new hw hz (h0) eS_93
      have hs_99 := sh_new hw hz (hs_92) eS_93
      have hs_97 : S_93 z = some (sRowK 0 z) := by rw [eS_93]; exact shu_at _ _ _
      have hw := hw1
      have hz := hz1
      refine lv_dup hx hb dX5_init_121 rfl ?_
      obtain ⟨hk_104, hp⟩ := hp
      refine r_cnN (As := []) ⟨hx, hb, hml, hown, hts⟩ (c_X4_init l G (hs_97) hp) (cw_X5_56 hts hw ⟨Nat.le_of_ble_eq_true rfl, Nat.le_of_ble_eq_true rfl⟩) hw hz rfl rfl hl.1 (Nat.le_of_ble_eq_true rfl) hk_104 dX5_init_122 (fun z_100 S_101 I_102 L_103 H locs hp hw hz => ?_)
      obtain ⟨hs_105, hs_106, hs_107, hp⟩ := hp
      obtain ⟨hi_108, hp⟩ := hp
      refine r_aast (ci := 6) hx hb hw (hs_107) rfl (hs_106) rfl rfl hi_108 dX5_init_125 (fun S_109 H locs eS_109 hw hz1 => ?_)
      replace hp := hp S_109 eS_109
      replace hz := hz1.trans hz
      have hs_110 := sh_set (hs_105) (show a0 ≠ (a0 + 6) by omega) eS_109
      obtain ⟨x_111, ex_111⟩ : ∃ z : Int32, z = x + (1 : Int32) := ⟨_, rfl⟩
      replace hp := hp x_111 ex_111
      refine lv_iinc (v := x_111) (lv' := [(1, .int x_111), (0, .ref a0)]) hx hb dX5_init_126 hl (k := 1) rfl (by rw [ex_111]; rfl) (by decide) rfl (fun ls hl => ?_)
      refine lv_goto (tgt := 104) hx hb dX5_init_129 (by decide) ?_
      exact hB104 _ _ _ (x_111) _ _ _ _ _ _ (hs_110) hp hw hz (lv_sub hl [1, 0] rfl)
set_option maxHeartbeats 4000000 in
set_option maxRecDepth 100000 in
theorem w_X5_init_74 {p : Program} {l : Launch} {e : Env} {s : State} {m : MethodId} {args : Array Value} {below : List Frame} {meth : Method} {c : Code} (C : Cx p s m args meth c cX5_init none 2 RX5) (hin : meth.name = "<init>") {G : GX} {a0 : Nat} {K : Nat → SH → MI → ML → Prop} : ∀ (n z k ks : Nat) (x : Int32) (Sh : SH) (I : MI) (L : ML) (H : Heap) (locs : List Loc) (ls : Array Slot) (h0 : Sh a0 = some (sTableK 5 a0)), wp_X5_init_74 G a0 K n z k ks x Sh I L → mW G Sh s I L H locs → H.size = z → lv_has ls 2 [(0, .ref a0), (1, .int x)] → W p l e (rmB 3 133 2151 54) s m args below meth c H locs k ks (eN below G K 133 2151 args s) (F0 m 74 ls []) := by
  obtain ⟨hx, hb, hr, hml, hown, hts, hlocks⟩ := id C
  intro n
  induction n with
  | zero => intro z k ks x Sh I L H locs ls h0 hp; exact hp.elim
  | succ n hB74 =>
    intro z k ks x Sh I L H locs ls h0 hp hw hz hl
    replace hp : wb_X5_init_74 G a0 K (wp_X5_init_74 G a0 K n) z k ks x Sh I L := hp
    unfold wb_X5_init_74 at hp
    refine lv_iload_n hx hb dX5_init_74 rfl (lv_at hl 1 rfl) ?_
    refine lv_aload_n hx hb dX5_init_75 rfl (lv_at hl 0 rfl) ?_
    refine r_get (C := RX5) (T := TX5) (N := 9) hx hb hts hown i_X5 hw (h0) rfl rfl 1 (by decide) (hts _ k_242) rfl rfl dX5_init_76 ?_
    obtain ⟨F_64, hs_65, hp⟩ := hp
    refine W.eq (g2 := F0 m 79 ls [.ref (a0 + 5), .int x]) rfl ?_
    refine r_alenQ (v := (13 : Int32)) hx hb hw (hs_65) rfl rfl dX5_init_79 ?_
    refine lv_icmp_ge (tgt := 102) hx hb dX5_init_80 (by decide) (fun hc_66 => ?_) (fun hc_66 => ?_)
    · replace hp := hp.1 hc_66
      refine lv_iconst (v := 0) hx hb dX5_init_102 (by decide) ?_
      refine lv_istore_n (lv' := [(1, .int (0 : Int32)), (0, .ref a0)]) hx hb dX5_init_103 rfl hl (by decide) rfl (fun ls hl => ?_)
      obtain ⟨n, hp⟩ := hp
      exact w_X5_init_104 C hin n _ _ _ ((0 : Int32)) _ _ _ _ _ _ (h0) hp hw hz (lv_sub hl [1, 0] rfl)
    · replace hp := hp.2 hc_66
      refine lv_aload_n hx hb dX5_init_83 rfl (lv_at hl 0 rfl) ?_
      refine r_get (C := RX5) (T := TX5) (N := 9) hx hb hts hown i_X5 hw (h0) rfl rfl 1 (by decide) (hts _ k_242) rfl rfl dX5_init_84 ?_
      obtain ⟨F_67, hs_68, hp⟩ := hp
      refine W.eq (g2 := F0 m 87 ls [.ref (a0 + 5)]) rfl ?_
      refine lv_iload_n hx hb dX5_init_87 rfl (lv_at hl 1 rfl) ?_
      obtain ⟨hk_72, hp⟩ := hp
      refine r_new (C := RX0) (T := TX0) (N := 5) hx hb hts hown i_X0 tyX0 tyX0_ok (hts _ k_115) (hts _ k_182) (hts _ k_41) hw hz rfl sGlue rfl (fun j hj => by rcases (show j = 0 ∨ j = 1 ∨ j = 2 ∨ j = 3 ∨ j = 4 by omega) with rfl | rfl | rfl | rfl | rfl <;> rfl) hk_72.1 hk_72.2 dX5_init_88 (fun S_69 I_70 L_71 H eS_69 eI_70 eL_71 hw1 hz1 => ?_)
      replace hp := hp S_69 eS_69 I_70 eI_70 L_71 eL_71
      have hs_74 := sh_new hw hz (h0) eS_69
      have hs_75 := sh_new hw hz (hs_68) eS_69
      have hs_73 : S_69 z = some sGlue := by rw [eS_69]; exact shu_at _ _ _
      have hw := hw1
      have hz := hz1
      refine lv_dup hx hb dX5_init_91 rfl ?_
      obtain ⟨hk_80, hp⟩ := hp
      refine r_cnN (As := []) ⟨hx, hb, hml, hown, hts⟩ (c_X0_init l G (hs_73) hp) (cw_X5_55 hts hw ⟨Nat.le_of_ble_eq_true rfl, Nat.le_of_ble_eq_true rfl⟩) hw hz rfl rfl hl.1 (Nat.le_of_ble_eq_true rfl) hk_80 dX5_init_92 (fun z_76 S_77 I_78 L_79 H locs hp hw hz => ?_)
      obtain ⟨hs_81, hs_82, hs_83, hp⟩ := hp
      obtain ⟨hi_84, hp⟩ := hp
      refine r_aast (ci := 2) hx hb hw (hs_83) rfl (hs_82) rfl rfl hi_84 dX5_init_95 (fun S_85 H locs eS_85 hw hz1 => ?_)
      replace hp := hp S_85 eS_85
      replace hz := hz1.trans hz
      have hs_86 := sh_set (hs_81) (show a0 ≠ (a0 + 5) by omega) eS_85
      obtain ⟨x_87, ex_87⟩ : ∃ z : Int32, z = x + (1 : Int32) := ⟨_, rfl⟩
      replace hp := hp x_87 ex_87
      refine lv_iinc (v := x_87) (lv' := [(1, .int x_87), (0, .ref a0)]) hx hb dX5_init_96 hl (k := 1) rfl (by rw [ex_87]; rfl) (by decide) rfl (fun ls hl => ?_)
      refine lv_goto (tgt := 74) hx hb dX5_init_99 (by decide) ?_
      exact hB74 _ _ _ (x_87) _ _ _ _ _ _ (hs_86) hp hw hz (lv_sub hl [1, 0] rfl)
set_option maxHeartbeats 4000000 in
set_option maxRecDepth 100000 in
theorem c_X5_init (l : Launch) (G : GX) {z : Nat} {Sh : SH} {a0 : Nat} (h0 : Sh a0 = some (sTableK 0 a0)) {I : MI} {L : ML} {K : Nat → SH → MI → ML → Prop} (hp : wp_X5_init G z Sh a0 I L K) : CtN l yX5_init (wM yX5_init cX5_init 2 none) (rmB 3 133 2151 54) G z Sh [.ref a0] I L K 133 2151 := by
  refine ofN (own := RX5) (by decide) rfl (Nat.le_of_ble_eq_true rfl) ?_
  intro p e s m args below meth c ls C hin hw hz hl
  obtain ⟨hx, hb, hr, hml, hown, hts, hlocks⟩ := id C
  replace hl : lv_has ls 2 [(0, .ref a0)] := hl
  unfold wp_X5_init at hp
  refine lv_aload_n hx hb dX5_init_0 rfl (lv_at hl 0 rfl) ?_
  refine W.objInit hx hb hown (hts _ k_76) (hts _ k_57) (hts _ k_58) rfl (by rw [hml]; exact hl.1) rfl dX5_init_1 (Nat.le_of_ble_eq_true rfl) (Nat.le_of_ble_eq_true rfl) ?_
  refine W.eq (g2 := F0 m 4 ls []) rfl ?_
  refine lv_aload_n hx hb dX5_init_4 rfl (lv_at hl 0 rfl) ?_
  obtain ⟨hk_4, hp⟩ := hp
  refine r_new (C := RX3) (T := TX3) (N := 8) hx hb hts hown i_X3 tyX3 tyX3_ok (hts _ k_77) (hts _ k_78) (hts _ k_38) hw hz rfl (sPreK 0 z) rfl (fun j hj => by rcases (show j = 0 ∨ j = 1 ∨ j = 2 ∨ j = 3 ∨ j = 4 ∨ j = 5 ∨ j = 6 ∨ j = 7 by omega) with rfl | rfl | rfl | rfl | rfl | rfl | rfl | rfl <;> rfl) hk_4.1 hk_4.2 dX5_init_5 (fun S_1 I_2 L_3 H eS_1 eI_2 eL_3 hw1 hz1 => ?_)
  replace hp := hp S_1 eS_1 I_2 eI_2 L_3 eL_3
  have hs_6 := sh_new hw hz (h0) eS_1
  have hs_5 : S_1 z = some (sPreK 0 z) := by rw [eS_1]; exact shu_at _ _ _
  have hw := hw1
  have hz := hz1
  refine lv_dup hx hb dX5_init_8 rfl ?_
  obtain ⟨hk_11, hp⟩ := hp
  refine r_cnN (As := []) ⟨hx, hb, hml, hown, hts⟩ (c_X3_init l G (hs_5) hp) (cw_X5_11 hts hw ⟨Nat.le_of_ble_eq_true rfl, Nat.le_of_ble_eq_true rfl⟩) hw hz rfl rfl hl.1 (Nat.le_of_ble_eq_true rfl) hk_11 dX5_init_9 (fun z_7 S_8 I_9 L_10 H locs hp hw hz => ?_)
  obtain ⟨hs_12, hs_13, hp⟩ := hp
  obtain ⟨hv_15, hp⟩ := hp
  refine r_putF (C := RX5) (T := TX5) (N := 9) hx hb hts hown i_X5 tyX5 tyX5_ok nmX5 hw (hs_12) rfl rfl 0 (by decide) (hts _ k_239) rfl rfl hin rfl rfl (Nat.le_of_ble_eq_true rfl) (sTableK 1 a0) (by rw [hv_15]; rfl) dX5_init_12 (fun S_14 H locs eS_14 hw hz1 => ?_)
  replace hp := hp S_14 eS_14
  replace hz := hz1.trans hz
  have hs_16 : S_14 a0 = some (sTableK 1 a0) := by rw [eS_14]; exact shu_at _ _ _
  refine lv_aload_n hx hb dX5_init_15 rfl (lv_at hl 0 rfl) ?_
  refine lv_bipush (v := 13) hx hb dX5_init_16 (by decide) ?_
  obtain ⟨hk_20, hp⟩ := hp
  refine r_newQ (N' := 13) (k := 4) hx hb hown (hts _ k_115) (hw.2.2.2.2.2 _ o_116) hw rfl hz (by decide) (by decide) (Nat.le_of_ble_eq_true rfl) hk_20.1 hk_20.2 dX5_init_18 (fun S_17 I_18 L_19 H eS_17 eI_18 eL_19 hw1 hz1 => ?_)
  replace hp := hp S_17 eS_17 I_18 eI_18 L_19 eL_19
  have hs_22 := sh_new hw hz (hs_16) eS_17
  have hs_21 : S_17 z_7 = some (sQ G 4 13 (fun _ => none)) := by rw [eS_17]; exact shu_at _ _ _
  have hw := hw1
  have hz := hz1
  obtain ⟨hv_24, hp⟩ := hp
  refine r_putF (C := RX5) (T := TX5) (N := 9) hx hb hts hown i_X5 tyX5 tyX5_ok nmX5 hw (hs_22) rfl rfl 1 (by decide) (hts _ k_242) rfl rfl hin rfl rfl (Nat.le_of_ble_eq_true rfl) (sTableK 2 a0) (by rw [hv_24]; rfl) dX5_init_21 (fun S_23 H locs eS_23 hw hz1 => ?_)
  replace hp := hp S_23 eS_23
  replace hz := hz1.trans hz
  have hs_25 : S_23 a0 = some (sTableK 2 a0) := by rw [eS_23]; exact shu_at _ _ _
  refine lv_aload_n hx hb dX5_init_24 rfl (lv_at hl 0 rfl) ?_
  refine lv_bipush (v := 20) hx hb dX5_init_25 (by decide) ?_
  obtain ⟨hk_29, hp⟩ := hp
  refine r_newQ (N' := 20) (k := 5) hx hb hown (hts _ k_117) (hw.2.2.2.2.2 _ o_118) hw rfl hz (by decide) (by decide) (Nat.le_of_ble_eq_true rfl) hk_29.1 hk_29.2 dX5_init_27 (fun S_26 I_27 L_28 H eS_26 eI_27 eL_28 hw1 hz1 => ?_)
  replace hp := hp S_26 eS_26 I_27 eI_27 L_28 eL_28
  have hs_31 := sh_new hw hz (hs_25) eS_26
  have hs_30 : S_26 (z_7 + 1) = some (sQ G 5 20 (fun _ => none)) := by rw [eS_26]; exact shu_at _ _ _
  have hw := hw1
  have hz := hz1
  obtain ⟨hv_33, hp⟩ := hp
  refine r_putF (C := RX5) (T := TX5) (N := 9) hx hb hts hown i_X5 tyX5 tyX5_ok nmX5 hw (hs_31) rfl rfl 2 (by decide) (hts _ k_244) rfl rfl hin rfl rfl (Nat.le_of_ble_eq_true rfl) (sTableK 3 a0) (by rw [hv_33]; rfl) dX5_init_30 (fun S_32 H locs eS_32 hw hz1 => ?_)
  replace hp := hp S_32 eS_32
  replace hz := hz1.trans hz
  have hs_34 : S_32 a0 = some (sTableK 3 a0) := by rw [eS_32]; exact shu_at _ _ _
  refine lv_aload_n hx hb dX5_init_33 rfl (lv_at hl 0 rfl) ?_
  refine lv_bipush (v := 40) hx hb dX5_init_34 (by decide) ?_
  obtain ⟨hk_38, hp⟩ := hp
  refine r_newI (N' := 40) hx hb (hts _ k_114) hw hz (by decide) (by decide) (Nat.le_of_ble_eq_true rfl) hk_38.1 hk_38.2 dX5_init_36 (fun S_35 I_36 L_37 H eS_35 eI_36 eL_37 hw1 hz1 => ?_)
  replace hp := hp S_35 eS_35 I_36 eI_36 L_37 eL_37
  have hs_40 := sh_new hw hz (hs_34) eS_35
  have hs_39 : S_35 (z_7 + 2) = some (sI G 40) := by rw [eS_35]; exact shu_at _ _ _
  have hw := hw1
  have hz := hz1
  obtain ⟨hv_42, hp⟩ := hp
  refine r_putF (C := RX5) (T := TX5) (N := 9) hx hb hts hown i_X5 tyX5 tyX5_ok nmX5 hw (hs_40) rfl rfl 3 (by decide) (hts _ k_247) rfl rfl hin rfl rfl (Nat.le_of_ble_eq_true rfl) (sTableK 4 a0) (by rw [hv_42]; rfl) dX5_init_38 (fun S_41 H locs eS_41 hw hz1 => ?_)
  replace hp := hp S_41 eS_41
  replace hz := hz1.trans hz
  have hs_43 : S_41 a0 = some (sTableK 4 a0) := by rw [eS_41]; exact shu_at _ _ _
  refine lv_aload_n hx hb dX5_init_41 rfl (lv_at hl 0 rfl) ?_
  obtain ⟨hk_47, hp⟩ := hp
  refine r_new (C := RX1) (T := TX1) (N := 13) hx hb hts hown i_X1 tyX1 tyX1_ok (hts _ k_119) (hts _ k_120) (hts _ k_39) hw hz rfl (sLastK 0 (z_7 + 3)) rfl (fun j hj => by rcases (show j = 0 ∨ j = 1 ∨ j = 2 ∨ j = 3 ∨ j = 4 ∨ j = 5 ∨ j = 6 ∨ j = 7 ∨ j = 8 ∨ j = 9 ∨ j = 10 ∨ j = 11 ∨ j = 12 by omega) with rfl | rfl | rfl | rfl | rfl | rfl | rfl | rfl | rfl | rfl | rfl | rfl | rfl <;> rfl) hk_47.1 hk_47.2 dX5_init_42 (fun S_44 I_45 L_46 H eS_44 eI_45 eL_46 hw1 hz1 => ?_)
  replace hp := hp S_44 eS_44 I_45 eI_45 L_46 eL_46
  have hs_49 := sh_new hw hz (hs_43) eS_44
  have hs_48 : S_44 (z_7 + 3) = some (sLastK 0 (z_7 + 3)) := by rw [eS_44]; exact shu_at _ _ _
  have hw := hw1
  have hz := hz1
  refine lv_dup hx hb dX5_init_45 rfl ?_
  obtain ⟨hk_54, hp⟩ := hp
  refine r_cnN (As := []) ⟨hx, hb, hml, hown, hts⟩ (c_X1_init l G (hs_48) hp) (cw_X5_36 hts hw ⟨Nat.le_of_ble_eq_true rfl, Nat.le_of_ble_eq_true rfl⟩) hw hz rfl rfl hl.1 (Nat.le_of_ble_eq_true rfl) hk_54 dX5_init_46 (fun z_50 S_51 I_52 L_53 H locs hp hw hz => ?_)
  obtain ⟨hs_55, hs_56, hp⟩ := hp
  obtain ⟨hv_58, hp⟩ := hp
  refine r_putF (C := RX5) (T := TX5) (N := 9) hx hb hts hown i_X5 tyX5 tyX5_ok nmX5 hw (hs_55) rfl rfl 4 (by decide) (hts _ k_249) rfl rfl hin rfl rfl (Nat.le_of_ble_eq_true rfl) (sTableK 5 a0) (by rw [hv_58]; rfl) dX5_init_49 (fun S_57 H locs eS_57 hw hz1 => ?_)
  replace hp := hp S_57 eS_57
  replace hz := hz1.trans hz
  have hs_59 : S_57 a0 = some (sTableK 5 a0) := by rw [eS_57]; exact shu_at _ _ _
  refine lv_aload_n hx hb dX5_init_52 rfl (lv_at hl 0 rfl) ?_
  refine lv_iconst (v := 0) hx hb dX5_init_53 (by decide) ?_
  have hz0 := hz
  refine r_putiz hz (C := RX5) (T := TX5) (N := 9) hx hb hts hown i_X5 tyX5 tyX5_ok nmX5 hw (hs_59) rfl rfl 5 (by decide) (hts _ k_251) rfl rfl rfl rfl (Nat.le_of_ble_eq_true rfl) rfl dX5_init_54 (fun I_60 H locs eI_60 hw hz => ?_)
  replace hp := hp I_60 eI_60
  refine lv_aload_n hx hb dX5_init_57 rfl (lv_at hl 0 rfl) ?_
  refine lv_iconst (v := 0) hx hb dX5_init_58 (by decide) ?_
  have hz0 := hz
  refine r_putiz hz (C := RX5) (T := TX5) (N := 9) hx hb hts hown i_X5 tyX5 tyX5_ok nmX5 hw (hs_59) rfl rfl 6 (by decide) (hts _ k_253) rfl rfl rfl rfl (Nat.le_of_ble_eq_true rfl) rfl dX5_init_59 (fun I_61 H locs eI_61 hw hz => ?_)
  replace hp := hp I_61 eI_61
  refine lv_aload_n hx hb dX5_init_62 rfl (lv_at hl 0 rfl) ?_
  refine lv_iconst (v := 0) hx hb dX5_init_63 (by decide) ?_
  have hz0 := hz
  refine r_putiz hz (C := RX5) (T := TX5) (N := 9) hx hb hts hown i_X5 tyX5 tyX5_ok nmX5 hw (hs_59) rfl rfl 7 (by decide) (hts _ k_254) rfl rfl rfl rfl (Nat.le_of_ble_eq_true rfl) rfl dX5_init_64 (fun I_62 H locs eI_62 hw hz => ?_)
  replace hp := hp I_62 eI_62
  refine lv_aload_n hx hb dX5_init_67 rfl (lv_at hl 0 rfl) ?_
  refine lv_iconst (v := 0) hx hb dX5_init_68 (by decide) ?_
  have hz0 := hz
  refine r_putiz hz (C := RX5) (T := TX5) (N := 9) hx hb hts hown i_X5 tyX5 tyX5_ok nmX5 hw (hs_59) rfl rfl 8 (by decide) (hts _ k_256) rfl rfl (nar_z (Or.inl rfl)) (fits_z (Or.inl rfl)) (Nat.le_of_ble_eq_true rfl) rfl dX5_init_69 (fun I_63 H locs eI_63 hw hz => ?_)
  replace hp := hp I_63 eI_63
  refine lv_iconst (v := 0) hx hb dX5_init_72 (by decide) ?_
  refine lv_istore_n (lv' := [(1, .int (0 : Int32)), (0, .ref a0)]) hx hb dX5_init_73 rfl hl (by decide) rfl (fun ls hl => ?_)
  obtain ⟨n, hp⟩ := hp
  exact w_X5_init_74 C hin n _ _ _ ((0 : Int32)) _ _ _ _ _ _ (hs_59) hp hw hz (lv_sub hl [1, 0] rfl)
set_option maxHeartbeats 4000000 in
set_option maxRecDepth 100000 in
theorem c_X6_init (l : Launch) (G : GX) {z : Nat} {Sh : SH} {a0 : Nat} (h0 : Sh a0 = some (sXK 0 a0)) {I : MI} {L : ML} {K : Nat → SH → MI → ML → Prop} (hp : wp_X6_init G z Sh a0 I L K) : CtN l yX6_init (wM yX6_init cX6_init 1 none) (rmB 1 1 6 14) G z Sh [.ref a0] I L K 1 6 := by
  refine ofN (own := RX6) (by decide) rfl (Nat.le_of_ble_eq_true rfl) ?_
  intro p e s m args below meth c ls C hin hw hz hl
  obtain ⟨hx, hb, hr, hml, hown, hts, hlocks⟩ := id C
  replace hl : lv_has ls 1 [(0, .ref a0)] := hl
  unfold wp_X6_init at hp
  refine lv_aload_n hx hb dX6_init_0 rfl (lv_at hl 0 rfl) ?_
  refine W.objInit hx hb hown (hts _ k_56) (hts _ k_57) (hts _ k_58) rfl (by rw [hml]; exact hl.1) rfl dX6_init_1 (Nat.le_of_ble_eq_true rfl) (Nat.le_of_ble_eq_true rfl) ?_
  refine W.eq (g2 := F0 m 4 ls []) rfl ?_
  refine lv_aload_n hx hb dX6_init_4 rfl (lv_at hl 0 rfl) ?_
  refine lv_bipush (v := 6) hx hb dX6_init_5 (by decide) ?_
  obtain ⟨hk_4, hp⟩ := hp
  refine r_newQ (N' := 6) (k := 6) hx hb hown (hts _ k_59) (hw.2.2.2.2.2 _ o_60) hw rfl hz (by decide) (by decide) (Nat.le_of_ble_eq_true rfl) hk_4.1 hk_4.2 dX6_init_7 (fun S_1 I_2 L_3 H eS_1 eI_2 eL_3 hw1 hz1 => ?_)
  replace hp := hp S_1 eS_1 I_2 eI_2 L_3 eL_3
  have hs_6 := sh_new hw hz (h0) eS_1
  have hs_5 : S_1 z = some (sQ G 6 6 (fun _ => none)) := by rw [eS_1]; exact shu_at _ _ _
  have hw := hw1
  have hz := hz1
  obtain ⟨hv_8, hp⟩ := hp
  refine r_putF (C := RX6) (T := TX6) (N := 2) hx hb hts hown i_X6 tyX6 tyX6_ok nmX6 hw (hs_6) rfl rfl 0 (by decide) (hts _ k_61) rfl rfl hin rfl rfl (Nat.le_of_ble_eq_true rfl) (sXK 1 a0) (by rw [hv_8]; rfl) dX6_init_10 (fun S_7 H locs eS_7 hw hz1 => ?_)
  replace hp := hp S_7 eS_7
  replace hz := hz1.trans hz
  have hs_9 : S_7 a0 = some (sXK 1 a0) := by rw [eS_7]; exact shu_at _ _ _
  refine lv_aload_n hx hb dX6_init_13 rfl (lv_at hl 0 rfl) ?_
  refine lv_iconst (v := 0) hx hb dX6_init_14 (by decide) ?_
  have hz0 := hz
  refine r_putiz hz (C := RX6) (T := TX6) (N := 2) hx hb hts hown i_X6 tyX6 tyX6_ok nmX6 hw (hs_9) rfl rfl 1 (by decide) (hts _ k_62) rfl rfl rfl rfl (Nat.le_of_ble_eq_true rfl) rfl dX6_init_15 (fun I_10 H locs eI_10 hw hz => ?_)
  replace hp := hp I_10 eI_10
  exact r_vretN hx hb hr hlocks hw hz hp dX6_init_18
set_option maxHeartbeats 4000000 in
set_option maxRecDepth 100000 in
theorem c_X6_table (l : Launch) (G : GX) {z : Nat} {Sh : SH} {a0 : Nat} (h0 : Sh a0 = some (sXK 1 a0)) {I : MI} {L : ML} {K : Int32 → Nat → SH → MI → ML → Prop} (hp : wp_X6_table G z Sh a0 I L K) : CtT l yX6_table (wM yX6_table cX6_table 1 (some .int)) (rmB 4 134 2160 75) G z Sh [.ref a0] I L K 134 2160 := by
  refine ofN (own := RX6) (by decide) rfl (Nat.le_of_ble_eq_true rfl) ?_
  intro p e s m args below meth c ls C hin hw hz hl
  obtain ⟨hx, hb, hr, hml, hown, hts, hlocks⟩ := id C
  replace hl : lv_has ls 1 [(0, .ref a0)] := hl
  unfold wp_X6_table at hp
  refine lv_aload_n hx hb dX6_table_0 rfl (lv_at hl 0 rfl) ?_
  refine r_get (C := RX6) (T := TX6) (N := 2) hx hb hts hown i_X6 hw (h0) rfl rfl 1 (by decide) (hts _ k_62) rfl rfl dX6_table_1 ?_
  refine lv_bipush (v := 6) hx hb dX6_table_4 (by decide) ?_
  refine lv_icmp_lt (tgt := 12) hx hb dX6_table_6 (by decide) (fun hc_1 => ?_) (fun hc_1 => ?_)
  · replace hp := hp.1 hc_1
    refine lv_aload_n hx hb dX6_table_12 rfl (lv_at hl 0 rfl) ?_
    refine r_get (C := RX6) (T := TX6) (N := 2) hx hb hts hown i_X6 hw (h0) rfl rfl 0 (by decide) (hts _ k_61) rfl rfl dX6_table_13 ?_
    obtain ⟨F_2, hs_3, hp⟩ := hp
    refine W.eq (g2 := F0 m 16 ls [.ref (a0 + 1)]) rfl ?_
    refine lv_aload_n hx hb dX6_table_16 rfl (lv_at hl 0 rfl) ?_
    refine r_get (C := RX6) (T := TX6) (N := 2) hx hb hts hown i_X6 hw (h0) rfl rfl 1 (by decide) (hts _ k_62) rfl rfl dX6_table_17 ?_
    obtain ⟨hk_7, hp⟩ := hp
    refine r_new (C := RX5) (T := TX5) (N := 9) hx hb hts hown i_X5 tyX5 tyX5_ok (hts _ k_59) (hts _ k_72) (hts _ k_37) hw hz rfl (sTableK 0 z) rfl (fun j hj => by rcases (show j = 0 ∨ j = 1 ∨ j = 2 ∨ j = 3 ∨ j = 4 ∨ j = 5 ∨ j = 6 ∨ j = 7 ∨ j = 8 by omega) with rfl | rfl | rfl | rfl | rfl | rfl | rfl | rfl | rfl <;> rfl) hk_7.1 hk_7.2 dX6_table_20 (fun S_4 I_5 L_6 H eS_4 eI_5 eL_6 hw1 hz1 => ?_)
    replace hp := hp S_4 eS_4 I_5 eI_5 L_6 eL_6
    have hs_9 := sh_new hw hz (h0) eS_4
    have hs_10 := sh_new hw hz (hs_3) eS_4
    have hs_8 : S_4 z = some (sTableK 0 z) := by rw [eS_4]; exact shu_at _ _ _
    have hw := hw1
    have hz := hz1
    refine lv_dup hx hb dX6_table_23 rfl ?_
    obtain ⟨hk_15, hp⟩ := hp
    refine r_cnI (As := []) ⟨hx, hb, hml, hown, hts⟩ (c_X5_init l G (hs_8) hp) (cw_X6_19 hts ⟨Nat.le_of_ble_eq_true rfl, Nat.le_of_ble_eq_true rfl⟩) hw hz rfl rfl hl.1 (Nat.le_of_ble_eq_true rfl) hk_15 dX6_table_24 (fun z_11 S_12 I_13 L_14 H locs hp hw hz => ?_)
    obtain ⟨hs_16, hs_17, hs_18, hp⟩ := hp
    obtain ⟨hi_19, hp⟩ := hp
    refine r_aast (ci := 7) hx hb hw (hs_18) rfl (hs_17) rfl rfl hi_19 dX6_table_27 (fun S_20 H locs eS_20 hw hz1 => ?_)
    replace hp := hp S_20 eS_20
    replace hz := hz1.trans hz
    have hs_21 := sh_set (hs_16) (show a0 ≠ (a0 + 1) by omega) eS_20
    refine lv_aload_n hx hb dX6_table_28 rfl (lv_at hl 0 rfl) ?_
    refine lv_dup hx hb dX6_table_29 rfl ?_
    refine r_get (C := RX6) (T := TX6) (N := 2) hx hb hts hown i_X6 hw (hs_21) rfl rfl 1 (by decide) (hts _ k_62) rfl rfl dX6_table_30 ?_
    refine lv_iconst (v := 1) hx hb dX6_table_33 (by decide) ?_
    refine lv_iadd hx hb dX6_table_34 ?_
    have hz0 := hz
    refine r_putiz hz (C := RX6) (T := TX6) (N := 2) hx hb hts hown i_X6 tyX6 tyX6_ok nmX6 hw (hs_21) rfl rfl 1 (by decide) (hts _ k_62) rfl rfl rfl rfl (Nat.le_of_ble_eq_true rfl) rfl dX6_table_35 (fun I_22 H locs eI_22 hw hz => ?_)
    replace hp := hp I_22 eI_22
    refine lv_aload_n hx hb dX6_table_38 rfl (lv_at hl 0 rfl) ?_
    refine r_get (C := RX6) (T := TX6) (N := 2) hx hb hts hown i_X6 hw (hs_21) rfl rfl 1 (by decide) (hts _ k_62) rfl rfl dX6_table_39 ?_
    refine lv_iconst (v := 1) hx hb dX6_table_42 (by decide) ?_
    refine lv_isub hx hb dX6_table_43 ?_
    exact r_iretT hx hb hr hlocks hw hz hp dX6_table_44
  · replace hp := hp.2 hc_1
    refine lv_bipush (v := (-4)) hx hb dX6_table_9 (by decide) ?_
    exact r_iretT hx hb hr hlocks hw hz hp dX6_table_11
set_option maxHeartbeats 4000000 in
set_option maxRecDepth 100000 in
theorem c_X7_init (l : Launch) (G : GX) {z : Nat} {Sh : SH} {a0 : Nat} (h0 : Sh a0 = some (sModelK 0 a0)) {I : MI} {L : ML} {K : Nat → SH → MI → ML → Prop} (hp : wp_X7_init G z Sh a0 I L K) : CtN l yX7_init (wM yX7_init cX7_init 1 none) (rmB 1 34 11376 14) G z Sh [.ref a0] I L K 34 11376 := by
  refine ofN (own := RX7) (by decide) rfl (Nat.le_of_ble_eq_true rfl) ?_
  intro p e s m args below meth c ls C hin hw hz hl
  obtain ⟨hx, hb, hr, hml, hown, hts, hlocks⟩ := id C
  replace hl : lv_has ls 1 [(0, .ref a0)] := hl
  unfold wp_X7_init at hp
  refine lv_aload_n hx hb dX7_init_0 rfl (lv_at hl 0 rfl) ?_
  refine W.objInit hx hb hown (hts _ k_667) (hts _ k_57) (hts _ k_58) rfl (by rw [hml]; exact hl.1) rfl dX7_init_1 (Nat.le_of_ble_eq_true rfl) (Nat.le_of_ble_eq_true rfl) ?_
  refine W.eq (g2 := F0 m 4 ls []) rfl ?_
  refine lv_aload_n hx hb dX7_init_4 rfl (lv_at hl 0 rfl) ?_
  refine lv_sipush (v := 240) hx hb dX7_init_5 (by decide) ?_
  obtain ⟨hk_4, hp⟩ := hp
  refine r_newI (N' := 240) hx hb (hts _ k_114) hw hz (by decide) (by decide) (Nat.le_of_ble_eq_true rfl) hk_4.1 hk_4.2 dX7_init_8 (fun S_1 I_2 L_3 H eS_1 eI_2 eL_3 hw1 hz1 => ?_)
  replace hp := hp S_1 eS_1 I_2 eI_2 L_3 eL_3
  have hs_6 := sh_new hw hz (h0) eS_1
  have hs_5 : S_1 z = some (sI G 240) := by rw [eS_1]; exact shu_at _ _ _
  have hw := hw1
  have hz := hz1
  obtain ⟨hv_8, hp⟩ := hp
  refine r_putF (C := RX7) (T := TX7) (N := 38) hx hb hts hown i_X7 tyX7 tyX7_ok nmX7 hw (hs_6) rfl rfl 2 (by decide) (hts _ k_670) rfl rfl hin rfl rfl (Nat.le_of_ble_eq_true rfl) (sModelK 1 a0) (by rw [hv_8]; rfl) dX7_init_10 (fun S_7 H locs eS_7 hw hz1 => ?_)
  replace hp := hp S_7 eS_7
  replace hz := hz1.trans hz
  have hs_9 : S_7 a0 = some (sModelK 1 a0) := by rw [eS_7]; exact shu_at _ _ _
  refine lv_aload_n hx hb dX7_init_13 rfl (lv_at hl 0 rfl) ?_
  refine lv_bipush (v := 6) hx hb dX7_init_14 (by decide) ?_
  obtain ⟨hk_13, hp⟩ := hp
  refine r_newI (N' := 6) hx hb (hts _ k_114) hw hz (by decide) (by decide) (Nat.le_of_ble_eq_true rfl) hk_13.1 hk_13.2 dX7_init_16 (fun S_10 I_11 L_12 H eS_10 eI_11 eL_12 hw1 hz1 => ?_)
  replace hp := hp S_10 eS_10 I_11 eI_11 L_12 eL_12
  have hs_15 := sh_new hw hz (hs_9) eS_10
  have hs_14 : S_10 (z + 1) = some (sI G 6) := by rw [eS_10]; exact shu_at _ _ _
  have hw := hw1
  have hz := hz1
  obtain ⟨hv_17, hp⟩ := hp
  refine r_putF (C := RX7) (T := TX7) (N := 38) hx hb hts hown i_X7 tyX7 tyX7_ok nmX7 hw (hs_15) rfl rfl 3 (by decide) (hts _ k_671) rfl rfl hin rfl rfl (Nat.le_of_ble_eq_true rfl) (sModelK 2 a0) (by rw [hv_17]; rfl) dX7_init_18 (fun S_16 H locs eS_16 hw hz1 => ?_)
  replace hp := hp S_16 eS_16
  replace hz := hz1.trans hz
  have hs_18 : S_16 a0 = some (sModelK 2 a0) := by rw [eS_16]; exact shu_at _ _ _
  refine lv_aload_n hx hb dX7_init_21 rfl (lv_at hl 0 rfl) ?_
  refine lv_bipush (v := 6) hx hb dX7_init_22 (by decide) ?_
  obtain ⟨hk_22, hp⟩ := hp
  refine r_newZ (N' := 6) hx hb (hts _ k_137) hw hz (by decide) (by decide) (Nat.le_of_ble_eq_true rfl) hk_22.1 hk_22.2 dX7_init_24 (fun S_19 I_20 L_21 H eS_19 eI_20 eL_21 hw1 hz1 => ?_)
  replace hp := hp S_19 eS_19 I_20 eI_20 L_21 eL_21
  have hs_24 := sh_new hw hz (hs_18) eS_19
  have hs_23 : S_19 (z + 2) = some (sZ G 6) := by rw [eS_19]; exact shu_at _ _ _
  have hw := hw1
  have hz := hz1
  obtain ⟨hv_26, hp⟩ := hp
  refine r_putF (C := RX7) (T := TX7) (N := 38) hx hb hts hown i_X7 tyX7 tyX7_ok nmX7 hw (hs_24) rfl rfl 4 (by decide) (hts _ k_672) rfl rfl hin rfl rfl (Nat.le_of_ble_eq_true rfl) (sModelK 3 a0) (by rw [hv_26]; rfl) dX7_init_26 (fun S_25 H locs eS_25 hw hz1 => ?_)
  replace hp := hp S_25 eS_25
  replace hz := hz1.trans hz
  have hs_27 : S_25 a0 = some (sModelK 3 a0) := by rw [eS_25]; exact shu_at _ _ _
  refine lv_aload_n hx hb dX7_init_29 rfl (lv_at hl 0 rfl) ?_
  refine lv_bipush (v := 6) hx hb dX7_init_30 (by decide) ?_
  obtain ⟨hk_31, hp⟩ := hp
  refine r_newI (N' := 6) hx hb (hts _ k_114) hw hz (by decide) (by decide) (Nat.le_of_ble_eq_true rfl) hk_31.1 hk_31.2 dX7_init_32 (fun S_28 I_29 L_30 H eS_28 eI_29 eL_30 hw1 hz1 => ?_)
  replace hp := hp S_28 eS_28 I_29 eI_29 L_30 eL_30
  have hs_33 := sh_new hw hz (hs_27) eS_28
  have hs_32 : S_28 (z + 3) = some (sI G 6) := by rw [eS_28]; exact shu_at _ _ _
  have hw := hw1
  have hz := hz1
  obtain ⟨hv_35, hp⟩ := hp
  refine r_putF (C := RX7) (T := TX7) (N := 38) hx hb hts hown i_X7 tyX7 tyX7_ok nmX7 hw (hs_33) rfl rfl 5 (by decide) (hts _ k_673) rfl rfl hin rfl rfl (Nat.le_of_ble_eq_true rfl) (sModelK 4 a0) (by rw [hv_35]; rfl) dX7_init_34 (fun S_34 H locs eS_34 hw hz1 => ?_)
  replace hp := hp S_34 eS_34
  replace hz := hz1.trans hz
  have hs_36 : S_34 a0 = some (sModelK 4 a0) := by rw [eS_34]; exact shu_at _ _ _
  refine lv_aload_n hx hb dX7_init_37 rfl (lv_at hl 0 rfl) ?_
  refine lv_bipush (v := 6) hx hb dX7_init_38 (by decide) ?_
  obtain ⟨hk_40, hp⟩ := hp
  refine r_newI (N' := 6) hx hb (hts _ k_114) hw hz (by decide) (by decide) (Nat.le_of_ble_eq_true rfl) hk_40.1 hk_40.2 dX7_init_40 (fun S_37 I_38 L_39 H eS_37 eI_38 eL_39 hw1 hz1 => ?_)
  replace hp := hp S_37 eS_37 I_38 eI_38 L_39 eL_39
  have hs_42 := sh_new hw hz (hs_36) eS_37
  have hs_41 : S_37 (z + 4) = some (sI G 6) := by rw [eS_37]; exact shu_at _ _ _
  have hw := hw1
  have hz := hz1
  obtain ⟨hv_44, hp⟩ := hp
  refine r_putF (C := RX7) (T := TX7) (N := 38) hx hb hts hown i_X7 tyX7 tyX7_ok nmX7 hw (hs_42) rfl rfl 6 (by decide) (hts _ k_674) rfl rfl hin rfl rfl (Nat.le_of_ble_eq_true rfl) (sModelK 5 a0) (by rw [hv_44]; rfl) dX7_init_42 (fun S_43 H locs eS_43 hw hz1 => ?_)
  replace hp := hp S_43 eS_43
  replace hz := hz1.trans hz
  have hs_45 : S_43 a0 = some (sModelK 5 a0) := by rw [eS_43]; exact shu_at _ _ _
  refine lv_aload_n hx hb dX7_init_45 rfl (lv_at hl 0 rfl) ?_
  refine lv_bipush (v := 72) hx hb dX7_init_46 (by decide) ?_
  obtain ⟨hk_49, hp⟩ := hp
  refine r_newI (N' := 72) hx hb (hts _ k_114) hw hz (by decide) (by decide) (Nat.le_of_ble_eq_true rfl) hk_49.1 hk_49.2 dX7_init_48 (fun S_46 I_47 L_48 H eS_46 eI_47 eL_48 hw1 hz1 => ?_)
  replace hp := hp S_46 eS_46 I_47 eI_47 L_48 eL_48
  have hs_51 := sh_new hw hz (hs_45) eS_46
  have hs_50 : S_46 (z + 5) = some (sI G 72) := by rw [eS_46]; exact shu_at _ _ _
  have hw := hw1
  have hz := hz1
  obtain ⟨hv_53, hp⟩ := hp
  refine r_putF (C := RX7) (T := TX7) (N := 38) hx hb hts hown i_X7 tyX7 tyX7_ok nmX7 hw (hs_51) rfl rfl 7 (by decide) (hts _ k_675) rfl rfl hin rfl rfl (Nat.le_of_ble_eq_true rfl) (sModelK 6 a0) (by rw [hv_53]; rfl) dX7_init_50 (fun S_52 H locs eS_52 hw hz1 => ?_)
  replace hp := hp S_52 eS_52
  replace hz := hz1.trans hz
  have hs_54 : S_52 a0 = some (sModelK 6 a0) := by rw [eS_52]; exact shu_at _ _ _
  refine lv_aload_n hx hb dX7_init_53 rfl (lv_at hl 0 rfl) ?_
  refine lv_bipush (v := 72) hx hb dX7_init_54 (by decide) ?_
  obtain ⟨hk_58, hp⟩ := hp
  refine r_newI (N' := 72) hx hb (hts _ k_114) hw hz (by decide) (by decide) (Nat.le_of_ble_eq_true rfl) hk_58.1 hk_58.2 dX7_init_56 (fun S_55 I_56 L_57 H eS_55 eI_56 eL_57 hw1 hz1 => ?_)
  replace hp := hp S_55 eS_55 I_56 eI_56 L_57 eL_57
  have hs_60 := sh_new hw hz (hs_54) eS_55
  have hs_59 : S_55 (z + 6) = some (sI G 72) := by rw [eS_55]; exact shu_at _ _ _
  have hw := hw1
  have hz := hz1
  obtain ⟨hv_62, hp⟩ := hp
  refine r_putF (C := RX7) (T := TX7) (N := 38) hx hb hts hown i_X7 tyX7 tyX7_ok nmX7 hw (hs_60) rfl rfl 8 (by decide) (hts _ k_676) rfl rfl hin rfl rfl (Nat.le_of_ble_eq_true rfl) (sModelK 7 a0) (by rw [hv_62]; rfl) dX7_init_58 (fun S_61 H locs eS_61 hw hz1 => ?_)
  replace hp := hp S_61 eS_61
  replace hz := hz1.trans hz
  have hs_63 : S_61 a0 = some (sModelK 7 a0) := by rw [eS_61]; exact shu_at _ _ _
  refine lv_aload_n hx hb dX7_init_61 rfl (lv_at hl 0 rfl) ?_
  refine lv_bipush (v := 78) hx hb dX7_init_62 (by decide) ?_
  obtain ⟨hk_67, hp⟩ := hp
  refine r_newI (N' := 78) hx hb (hts _ k_114) hw hz (by decide) (by decide) (Nat.le_of_ble_eq_true rfl) hk_67.1 hk_67.2 dX7_init_64 (fun S_64 I_65 L_66 H eS_64 eI_65 eL_66 hw1 hz1 => ?_)
  replace hp := hp S_64 eS_64 I_65 eI_65 L_66 eL_66
  have hs_69 := sh_new hw hz (hs_63) eS_64
  have hs_68 : S_64 (z + 7) = some (sI G 78) := by rw [eS_64]; exact shu_at _ _ _
  have hw := hw1
  have hz := hz1
  obtain ⟨hv_71, hp⟩ := hp
  refine r_putF (C := RX7) (T := TX7) (N := 38) hx hb hts hown i_X7 tyX7 tyX7_ok nmX7 hw (hs_69) rfl rfl 9 (by decide) (hts _ k_677) rfl rfl hin rfl rfl (Nat.le_of_ble_eq_true rfl) (sModelK 8 a0) (by rw [hv_71]; rfl) dX7_init_66 (fun S_70 H locs eS_70 hw hz1 => ?_)
  replace hp := hp S_70 eS_70
  replace hz := hz1.trans hz
  have hs_72 : S_70 a0 = some (sModelK 8 a0) := by rw [eS_70]; exact shu_at _ _ _
  refine lv_aload_n hx hb dX7_init_69 rfl (lv_at hl 0 rfl) ?_
  refine lv_bipush (v := 78) hx hb dX7_init_70 (by decide) ?_
  obtain ⟨hk_76, hp⟩ := hp
  refine r_newI (N' := 78) hx hb (hts _ k_114) hw hz (by decide) (by decide) (Nat.le_of_ble_eq_true rfl) hk_76.1 hk_76.2 dX7_init_72 (fun S_73 I_74 L_75 H eS_73 eI_74 eL_75 hw1 hz1 => ?_)
  replace hp := hp S_73 eS_73 I_74 eI_74 L_75 eL_75
  have hs_78 := sh_new hw hz (hs_72) eS_73
  have hs_77 : S_73 (z + 8) = some (sI G 78) := by rw [eS_73]; exact shu_at _ _ _
  have hw := hw1
  have hz := hz1
  obtain ⟨hv_80, hp⟩ := hp
  refine r_putF (C := RX7) (T := TX7) (N := 38) hx hb hts hown i_X7 tyX7 tyX7_ok nmX7 hw (hs_78) rfl rfl 10 (by decide) (hts _ k_678) rfl rfl hin rfl rfl (Nat.le_of_ble_eq_true rfl) (sModelK 9 a0) (by rw [hv_80]; rfl) dX7_init_74 (fun S_79 H locs eS_79 hw hz1 => ?_)
  replace hp := hp S_79 eS_79
  replace hz := hz1.trans hz
  have hs_81 : S_79 a0 = some (sModelK 9 a0) := by rw [eS_79]; exact shu_at _ _ _
  refine lv_aload_n hx hb dX7_init_77 rfl (lv_at hl 0 rfl) ?_
  refine lv_bipush (v := 78) hx hb dX7_init_78 (by decide) ?_
  obtain ⟨hk_85, hp⟩ := hp
  refine r_newI (N' := 78) hx hb (hts _ k_114) hw hz (by decide) (by decide) (Nat.le_of_ble_eq_true rfl) hk_85.1 hk_85.2 dX7_init_80 (fun S_82 I_83 L_84 H eS_82 eI_83 eL_84 hw1 hz1 => ?_)
  replace hp := hp S_82 eS_82 I_83 eI_83 L_84 eL_84
  have hs_87 := sh_new hw hz (hs_81) eS_82
  have hs_86 : S_82 (z + 9) = some (sI G 78) := by rw [eS_82]; exact shu_at _ _ _
  have hw := hw1
  have hz := hz1
  obtain ⟨hv_89, hp⟩ := hp
  refine r_putF (C := RX7) (T := TX7) (N := 38) hx hb hts hown i_X7 tyX7 tyX7_ok nmX7 hw (hs_87) rfl rfl 11 (by decide) (hts _ k_679) rfl rfl hin rfl rfl (Nat.le_of_ble_eq_true rfl) (sModelK 10 a0) (by rw [hv_89]; rfl) dX7_init_82 (fun S_88 H locs eS_88 hw hz1 => ?_)
  replace hp := hp S_88 eS_88
  replace hz := hz1.trans hz
  have hs_90 : S_88 a0 = some (sModelK 10 a0) := by rw [eS_88]; exact shu_at _ _ _
  refine lv_aload_n hx hb dX7_init_85 rfl (lv_at hl 0 rfl) ?_
  refine lv_bipush (v := 78) hx hb dX7_init_86 (by decide) ?_
  obtain ⟨hk_94, hp⟩ := hp
  refine r_newI (N' := 78) hx hb (hts _ k_114) hw hz (by decide) (by decide) (Nat.le_of_ble_eq_true rfl) hk_94.1 hk_94.2 dX7_init_88 (fun S_91 I_92 L_93 H eS_91 eI_92 eL_93 hw1 hz1 => ?_)
  replace hp := hp S_91 eS_91 I_92 eI_92 L_93 eL_93
  have hs_96 := sh_new hw hz (hs_90) eS_91
  have hs_95 : S_91 (z + 10) = some (sI G 78) := by rw [eS_91]; exact shu_at _ _ _
  have hw := hw1
  have hz := hz1
  obtain ⟨hv_98, hp⟩ := hp
  refine r_putF (C := RX7) (T := TX7) (N := 38) hx hb hts hown i_X7 tyX7 tyX7_ok nmX7 hw (hs_96) rfl rfl 12 (by decide) (hts _ k_680) rfl rfl hin rfl rfl (Nat.le_of_ble_eq_true rfl) (sModelK 11 a0) (by rw [hv_98]; rfl) dX7_init_90 (fun S_97 H locs eS_97 hw hz1 => ?_)
  replace hp := hp S_97 eS_97
  replace hz := hz1.trans hz
  have hs_99 : S_97 a0 = some (sModelK 11 a0) := by rw [eS_97]; exact shu_at _ _ _
  refine lv_aload_n hx hb dX7_init_93 rfl (lv_at hl 0 rfl) ?_
  refine lv_bipush (v := 78) hx hb dX7_init_94 (by decide) ?_
  obtain ⟨hk_103, hp⟩ := hp
  refine r_newI (N' := 78) hx hb (hts _ k_114) hw hz (by decide) (by decide) (Nat.le_of_ble_eq_true rfl) hk_103.1 hk_103.2 dX7_init_96 (fun S_100 I_101 L_102 H eS_100 eI_101 eL_102 hw1 hz1 => ?_)
  replace hp := hp S_100 eS_100 I_101 eI_101 L_102 eL_102
  have hs_105 := sh_new hw hz (hs_99) eS_100
  have hs_104 : S_100 (z + 11) = some (sI G 78) := by rw [eS_100]; exact shu_at _ _ _
  have hw := hw1
  have hz := hz1
  obtain ⟨hv_107, hp⟩ := hp
  refine r_putF (C := RX7) (T := TX7) (N := 38) hx hb hts hown i_X7 tyX7 tyX7_ok nmX7 hw (hs_105) rfl rfl 13 (by decide) (hts _ k_681) rfl rfl hin rfl rfl (Nat.le_of_ble_eq_true rfl) (sModelK 12 a0) (by rw [hv_107]; rfl) dX7_init_98 (fun S_106 H locs eS_106 hw hz1 => ?_)
  replace hp := hp S_106 eS_106
  replace hz := hz1.trans hz
  have hs_108 : S_106 a0 = some (sModelK 12 a0) := by rw [eS_106]; exact shu_at _ _ _
  refine lv_aload_n hx hb dX7_init_101 rfl (lv_at hl 0 rfl) ?_
  refine lv_bipush (v := 6) hx hb dX7_init_102 (by decide) ?_
  obtain ⟨hk_112, hp⟩ := hp
  refine r_newI (N' := 6) hx hb (hts _ k_114) hw hz (by decide) (by decide) (Nat.le_of_ble_eq_true rfl) hk_112.1 hk_112.2 dX7_init_104 (fun S_109 I_110 L_111 H eS_109 eI_110 eL_111 hw1 hz1 => ?_)
  replace hp := hp S_109 eS_109 I_110 eI_110 L_111 eL_111
  have hs_114 := sh_new hw hz (hs_108) eS_109
  have hs_113 : S_109 (z + 12) = some (sI G 6) := by rw [eS_109]; exact shu_at _ _ _
  have hw := hw1
  have hz := hz1
  obtain ⟨hv_116, hp⟩ := hp
  refine r_putF (C := RX7) (T := TX7) (N := 38) hx hb hts hown i_X7 tyX7 tyX7_ok nmX7 hw (hs_114) rfl rfl 14 (by decide) (hts _ k_682) rfl rfl hin rfl rfl (Nat.le_of_ble_eq_true rfl) (sModelK 13 a0) (by rw [hv_116]; rfl) dX7_init_106 (fun S_115 H locs eS_115 hw hz1 => ?_)
  replace hp := hp S_115 eS_115
  replace hz := hz1.trans hz
  have hs_117 : S_115 a0 = some (sModelK 13 a0) := by rw [eS_115]; exact shu_at _ _ _
  refine lv_aload_n hx hb dX7_init_109 rfl (lv_at hl 0 rfl) ?_
  refine lv_bipush (v := 6) hx hb dX7_init_110 (by decide) ?_
  obtain ⟨hk_121, hp⟩ := hp
  refine r_newZ (N' := 6) hx hb (hts _ k_137) hw hz (by decide) (by decide) (Nat.le_of_ble_eq_true rfl) hk_121.1 hk_121.2 dX7_init_112 (fun S_118 I_119 L_120 H eS_118 eI_119 eL_120 hw1 hz1 => ?_)
  replace hp := hp S_118 eS_118 I_119 eI_119 L_120 eL_120
  have hs_123 := sh_new hw hz (hs_117) eS_118
  have hs_122 : S_118 (z + 13) = some (sZ G 6) := by rw [eS_118]; exact shu_at _ _ _
  have hw := hw1
  have hz := hz1
  obtain ⟨hv_125, hp⟩ := hp
  refine r_putF (C := RX7) (T := TX7) (N := 38) hx hb hts hown i_X7 tyX7 tyX7_ok nmX7 hw (hs_123) rfl rfl 15 (by decide) (hts _ k_683) rfl rfl hin rfl rfl (Nat.le_of_ble_eq_true rfl) (sModelK 14 a0) (by rw [hv_125]; rfl) dX7_init_114 (fun S_124 H locs eS_124 hw hz1 => ?_)
  replace hp := hp S_124 eS_124
  replace hz := hz1.trans hz
  have hs_126 : S_124 a0 = some (sModelK 14 a0) := by rw [eS_124]; exact shu_at _ _ _
  refine lv_aload_n hx hb dX7_init_117 rfl (lv_at hl 0 rfl) ?_
  refine lv_bipush (v := 120) hx hb dX7_init_118 (by decide) ?_
  obtain ⟨hk_130, hp⟩ := hp
  refine r_newI (N' := 120) hx hb (hts _ k_114) hw hz (by decide) (by decide) (Nat.le_of_ble_eq_true rfl) hk_130.1 hk_130.2 dX7_init_120 (fun S_127 I_128 L_129 H eS_127 eI_128 eL_129 hw1 hz1 => ?_)
  replace hp := hp S_127 eS_127 I_128 eI_128 L_129 eL_129
  have hs_132 := sh_new hw hz (hs_126) eS_127
  have hs_131 : S_127 (z + 14) = some (sI G 120) := by rw [eS_127]; exact shu_at _ _ _
  have hw := hw1
  have hz := hz1
  obtain ⟨hv_134, hp⟩ := hp
  refine r_putF (C := RX7) (T := TX7) (N := 38) hx hb hts hown i_X7 tyX7 tyX7_ok nmX7 hw (hs_132) rfl rfl 16 (by decide) (hts _ k_684) rfl rfl hin rfl rfl (Nat.le_of_ble_eq_true rfl) (sModelK 15 a0) (by rw [hv_134]; rfl) dX7_init_122 (fun S_133 H locs eS_133 hw hz1 => ?_)
  replace hp := hp S_133 eS_133
  replace hz := hz1.trans hz
  have hs_135 : S_133 a0 = some (sModelK 15 a0) := by rw [eS_133]; exact shu_at _ _ _
  refine lv_aload_n hx hb dX7_init_125 rfl (lv_at hl 0 rfl) ?_
  refine lv_bipush (v := 120) hx hb dX7_init_126 (by decide) ?_
  obtain ⟨hk_139, hp⟩ := hp
  refine r_newI (N' := 120) hx hb (hts _ k_114) hw hz (by decide) (by decide) (Nat.le_of_ble_eq_true rfl) hk_139.1 hk_139.2 dX7_init_128 (fun S_136 I_137 L_138 H eS_136 eI_137 eL_138 hw1 hz1 => ?_)
  replace hp := hp S_136 eS_136 I_137 eI_137 L_138 eL_138
  have hs_141 := sh_new hw hz (hs_135) eS_136
  have hs_140 : S_136 (z + 15) = some (sI G 120) := by rw [eS_136]; exact shu_at _ _ _
  have hw := hw1
  have hz := hz1
  obtain ⟨hv_143, hp⟩ := hp
  refine r_putF (C := RX7) (T := TX7) (N := 38) hx hb hts hown i_X7 tyX7 tyX7_ok nmX7 hw (hs_141) rfl rfl 17 (by decide) (hts _ k_685) rfl rfl hin rfl rfl (Nat.le_of_ble_eq_true rfl) (sModelK 16 a0) (by rw [hv_143]; rfl) dX7_init_130 (fun S_142 H locs eS_142 hw hz1 => ?_)
  replace hp := hp S_142 eS_142
  replace hz := hz1.trans hz
  have hs_144 : S_142 a0 = some (sModelK 16 a0) := by rw [eS_142]; exact shu_at _ _ _
  refine lv_aload_n hx hb dX7_init_133 rfl (lv_at hl 0 rfl) ?_
  refine lv_bipush (v := 6) hx hb dX7_init_134 (by decide) ?_
  obtain ⟨hk_148, hp⟩ := hp
  refine r_newI (N' := 6) hx hb (hts _ k_114) hw hz (by decide) (by decide) (Nat.le_of_ble_eq_true rfl) hk_148.1 hk_148.2 dX7_init_136 (fun S_145 I_146 L_147 H eS_145 eI_146 eL_147 hw1 hz1 => ?_)
  replace hp := hp S_145 eS_145 I_146 eI_146 L_147 eL_147
  have hs_150 := sh_new hw hz (hs_144) eS_145
  have hs_149 : S_145 (z + 16) = some (sI G 6) := by rw [eS_145]; exact shu_at _ _ _
  have hw := hw1
  have hz := hz1
  obtain ⟨hv_152, hp⟩ := hp
  refine r_putF (C := RX7) (T := TX7) (N := 38) hx hb hts hown i_X7 tyX7 tyX7_ok nmX7 hw (hs_150) rfl rfl 18 (by decide) (hts _ k_686) rfl rfl hin rfl rfl (Nat.le_of_ble_eq_true rfl) (sModelK 17 a0) (by rw [hv_152]; rfl) dX7_init_138 (fun S_151 H locs eS_151 hw hz1 => ?_)
  replace hp := hp S_151 eS_151
  replace hz := hz1.trans hz
  have hs_153 : S_151 a0 = some (sModelK 17 a0) := by rw [eS_151]; exact shu_at _ _ _
  refine lv_aload_n hx hb dX7_init_141 rfl (lv_at hl 0 rfl) ?_
  refine lv_sipush (v := 2880) hx hb dX7_init_142 (by decide) ?_
  obtain ⟨hk_157, hp⟩ := hp
  refine r_newI (N' := 2880) hx hb (hts _ k_114) hw hz (by decide) (by decide) (Nat.le_of_ble_eq_true rfl) hk_157.1 hk_157.2 dX7_init_145 (fun S_154 I_155 L_156 H eS_154 eI_155 eL_156 hw1 hz1 => ?_)
  replace hp := hp S_154 eS_154 I_155 eI_155 L_156 eL_156
  have hs_159 := sh_new hw hz (hs_153) eS_154
  have hs_158 : S_154 (z + 17) = some (sI G 2880) := by rw [eS_154]; exact shu_at _ _ _
  have hw := hw1
  have hz := hz1
  obtain ⟨hv_161, hp⟩ := hp
  refine r_putF (C := RX7) (T := TX7) (N := 38) hx hb hts hown i_X7 tyX7 tyX7_ok nmX7 hw (hs_159) rfl rfl 19 (by decide) (hts _ k_687) rfl rfl hin rfl rfl (Nat.le_of_ble_eq_true rfl) (sModelK 18 a0) (by rw [hv_161]; rfl) dX7_init_147 (fun S_160 H locs eS_160 hw hz1 => ?_)
  replace hp := hp S_160 eS_160
  replace hz := hz1.trans hz
  have hs_162 : S_160 a0 = some (sModelK 18 a0) := by rw [eS_160]; exact shu_at _ _ _
  refine lv_aload_n hx hb dX7_init_150 rfl (lv_at hl 0 rfl) ?_
  refine lv_sipush (v := 2880) hx hb dX7_init_151 (by decide) ?_
  obtain ⟨hk_166, hp⟩ := hp
  refine r_newI (N' := 2880) hx hb (hts _ k_114) hw hz (by decide) (by decide) (Nat.le_of_ble_eq_true rfl) hk_166.1 hk_166.2 dX7_init_154 (fun S_163 I_164 L_165 H eS_163 eI_164 eL_165 hw1 hz1 => ?_)
  replace hp := hp S_163 eS_163 I_164 eI_164 L_165 eL_165
  have hs_168 := sh_new hw hz (hs_162) eS_163
  have hs_167 : S_163 (z + 18) = some (sI G 2880) := by rw [eS_163]; exact shu_at _ _ _
  have hw := hw1
  have hz := hz1
  obtain ⟨hv_170, hp⟩ := hp
  refine r_putF (C := RX7) (T := TX7) (N := 38) hx hb hts hown i_X7 tyX7 tyX7_ok nmX7 hw (hs_168) rfl rfl 20 (by decide) (hts _ k_688) rfl rfl hin rfl rfl (Nat.le_of_ble_eq_true rfl) (sModelK 19 a0) (by rw [hv_170]; rfl) dX7_init_156 (fun S_169 H locs eS_169 hw hz1 => ?_)
  replace hp := hp S_169 eS_169
  replace hz := hz1.trans hz
  have hs_171 : S_169 a0 = some (sModelK 19 a0) := by rw [eS_169]; exact shu_at _ _ _
  refine lv_aload_n hx hb dX7_init_159 rfl (lv_at hl 0 rfl) ?_
  refine lv_sipush (v := 2880) hx hb dX7_init_160 (by decide) ?_
  obtain ⟨hk_175, hp⟩ := hp
  refine r_newI (N' := 2880) hx hb (hts _ k_114) hw hz (by decide) (by decide) (Nat.le_of_ble_eq_true rfl) hk_175.1 hk_175.2 dX7_init_163 (fun S_172 I_173 L_174 H eS_172 eI_173 eL_174 hw1 hz1 => ?_)
  replace hp := hp S_172 eS_172 I_173 eI_173 L_174 eL_174
  have hs_177 := sh_new hw hz (hs_171) eS_172
  have hs_176 : S_172 (z + 19) = some (sI G 2880) := by rw [eS_172]; exact shu_at _ _ _
  have hw := hw1
  have hz := hz1
  obtain ⟨hv_179, hp⟩ := hp
  refine r_putF (C := RX7) (T := TX7) (N := 38) hx hb hts hown i_X7 tyX7 tyX7_ok nmX7 hw (hs_177) rfl rfl 21 (by decide) (hts _ k_689) rfl rfl hin rfl rfl (Nat.le_of_ble_eq_true rfl) (sModelK 20 a0) (by rw [hv_179]; rfl) dX7_init_165 (fun S_178 H locs eS_178 hw hz1 => ?_)
  replace hp := hp S_178 eS_178
  replace hz := hz1.trans hz
  have hs_180 : S_178 a0 = some (sModelK 20 a0) := by rw [eS_178]; exact shu_at _ _ _
  refine lv_aload_n hx hb dX7_init_168 rfl (lv_at hl 0 rfl) ?_
  refine lv_bipush (v := 6) hx hb dX7_init_169 (by decide) ?_
  obtain ⟨hk_184, hp⟩ := hp
  refine r_newI (N' := 6) hx hb (hts _ k_114) hw hz (by decide) (by decide) (Nat.le_of_ble_eq_true rfl) hk_184.1 hk_184.2 dX7_init_171 (fun S_181 I_182 L_183 H eS_181 eI_182 eL_183 hw1 hz1 => ?_)
  replace hp := hp S_181 eS_181 I_182 eI_182 L_183 eL_183
  have hs_186 := sh_new hw hz (hs_180) eS_181
  have hs_185 : S_181 (z + 20) = some (sI G 6) := by rw [eS_181]; exact shu_at _ _ _
  have hw := hw1
  have hz := hz1
  obtain ⟨hv_188, hp⟩ := hp
  refine r_putF (C := RX7) (T := TX7) (N := 38) hx hb hts hown i_X7 tyX7 tyX7_ok nmX7 hw (hs_186) rfl rfl 22 (by decide) (hts _ k_690) rfl rfl hin rfl rfl (Nat.le_of_ble_eq_true rfl) (sModelK 21 a0) (by rw [hv_188]; rfl) dX7_init_173 (fun S_187 H locs eS_187 hw hz1 => ?_)
  replace hp := hp S_187 eS_187
  replace hz := hz1.trans hz
  have hs_189 : S_187 a0 = some (sModelK 21 a0) := by rw [eS_187]; exact shu_at _ _ _
  refine lv_aload_n hx hb dX7_init_176 rfl (lv_at hl 0 rfl) ?_
  refine lv_sipush (v := 240) hx hb dX7_init_177 (by decide) ?_
  obtain ⟨hk_193, hp⟩ := hp
  refine r_newI (N' := 240) hx hb (hts _ k_114) hw hz (by decide) (by decide) (Nat.le_of_ble_eq_true rfl) hk_193.1 hk_193.2 dX7_init_180 (fun S_190 I_191 L_192 H eS_190 eI_191 eL_192 hw1 hz1 => ?_)
  replace hp := hp S_190 eS_190 I_191 eI_191 L_192 eL_192
  have hs_195 := sh_new hw hz (hs_189) eS_190
  have hs_194 : S_190 (z + 21) = some (sI G 240) := by rw [eS_190]; exact shu_at _ _ _
  have hw := hw1
  have hz := hz1
  obtain ⟨hv_197, hp⟩ := hp
  refine r_putF (C := RX7) (T := TX7) (N := 38) hx hb hts hown i_X7 tyX7 tyX7_ok nmX7 hw (hs_195) rfl rfl 23 (by decide) (hts _ k_691) rfl rfl hin rfl rfl (Nat.le_of_ble_eq_true rfl) (sModelK 22 a0) (by rw [hv_197]; rfl) dX7_init_182 (fun S_196 H locs eS_196 hw hz1 => ?_)
  replace hp := hp S_196 eS_196
  replace hz := hz1.trans hz
  have hs_198 : S_196 a0 = some (sModelK 22 a0) := by rw [eS_196]; exact shu_at _ _ _
  refine lv_aload_n hx hb dX7_init_185 rfl (lv_at hl 0 rfl) ?_
  refine lv_bipush (v := 6) hx hb dX7_init_186 (by decide) ?_
  obtain ⟨hk_202, hp⟩ := hp
  refine r_newI (N' := 6) hx hb (hts _ k_114) hw hz (by decide) (by decide) (Nat.le_of_ble_eq_true rfl) hk_202.1 hk_202.2 dX7_init_188 (fun S_199 I_200 L_201 H eS_199 eI_200 eL_201 hw1 hz1 => ?_)
  replace hp := hp S_199 eS_199 I_200 eI_200 L_201 eL_201
  have hs_204 := sh_new hw hz (hs_198) eS_199
  have hs_203 : S_199 (z + 22) = some (sI G 6) := by rw [eS_199]; exact shu_at _ _ _
  have hw := hw1
  have hz := hz1
  obtain ⟨hv_206, hp⟩ := hp
  refine r_putF (C := RX7) (T := TX7) (N := 38) hx hb hts hown i_X7 tyX7 tyX7_ok nmX7 hw (hs_204) rfl rfl 24 (by decide) (hts _ k_692) rfl rfl hin rfl rfl (Nat.le_of_ble_eq_true rfl) (sModelK 23 a0) (by rw [hv_206]; rfl) dX7_init_190 (fun S_205 H locs eS_205 hw hz1 => ?_)
  replace hp := hp S_205 eS_205
  replace hz := hz1.trans hz
  have hs_207 : S_205 a0 = some (sModelK 23 a0) := by rw [eS_205]; exact shu_at _ _ _
  refine lv_aload_n hx hb dX7_init_193 rfl (lv_at hl 0 rfl) ?_
  refine lv_bipush (v := 6) hx hb dX7_init_194 (by decide) ?_
  obtain ⟨hk_211, hp⟩ := hp
  refine r_newI (N' := 6) hx hb (hts _ k_114) hw hz (by decide) (by decide) (Nat.le_of_ble_eq_true rfl) hk_211.1 hk_211.2 dX7_init_196 (fun S_208 I_209 L_210 H eS_208 eI_209 eL_210 hw1 hz1 => ?_)
  replace hp := hp S_208 eS_208 I_209 eI_209 L_210 eL_210
  have hs_213 := sh_new hw hz (hs_207) eS_208
  have hs_212 : S_208 (z + 23) = some (sI G 6) := by rw [eS_208]; exact shu_at _ _ _
  have hw := hw1
  have hz := hz1
  obtain ⟨hv_215, hp⟩ := hp
  refine r_putF (C := RX7) (T := TX7) (N := 38) hx hb hts hown i_X7 tyX7 tyX7_ok nmX7 hw (hs_213) rfl rfl 25 (by decide) (hts _ k_693) rfl rfl hin rfl rfl (Nat.le_of_ble_eq_true rfl) (sModelK 24 a0) (by rw [hv_215]; rfl) dX7_init_198 (fun S_214 H locs eS_214 hw hz1 => ?_)
  replace hp := hp S_214 eS_214
  replace hz := hz1.trans hz
  have hs_216 : S_214 a0 = some (sModelK 24 a0) := by rw [eS_214]; exact shu_at _ _ _
  refine lv_aload_n hx hb dX7_init_201 rfl (lv_at hl 0 rfl) ?_
  refine lv_bipush (v := 6) hx hb dX7_init_202 (by decide) ?_
  obtain ⟨hk_220, hp⟩ := hp
  refine r_newI (N' := 6) hx hb (hts _ k_114) hw hz (by decide) (by decide) (Nat.le_of_ble_eq_true rfl) hk_220.1 hk_220.2 dX7_init_204 (fun S_217 I_218 L_219 H eS_217 eI_218 eL_219 hw1 hz1 => ?_)
  replace hp := hp S_217 eS_217 I_218 eI_218 L_219 eL_219
  have hs_222 := sh_new hw hz (hs_216) eS_217
  have hs_221 : S_217 (z + 24) = some (sI G 6) := by rw [eS_217]; exact shu_at _ _ _
  have hw := hw1
  have hz := hz1
  obtain ⟨hv_224, hp⟩ := hp
  refine r_putF (C := RX7) (T := TX7) (N := 38) hx hb hts hown i_X7 tyX7 tyX7_ok nmX7 hw (hs_222) rfl rfl 26 (by decide) (hts _ k_694) rfl rfl hin rfl rfl (Nat.le_of_ble_eq_true rfl) (sModelK 25 a0) (by rw [hv_224]; rfl) dX7_init_206 (fun S_223 H locs eS_223 hw hz1 => ?_)
  replace hp := hp S_223 eS_223
  replace hz := hz1.trans hz
  have hs_225 : S_223 a0 = some (sModelK 25 a0) := by rw [eS_223]; exact shu_at _ _ _
  refine lv_aload_n hx hb dX7_init_209 rfl (lv_at hl 0 rfl) ?_
  refine lv_sipush (v := 144) hx hb dX7_init_210 (by decide) ?_
  obtain ⟨hk_229, hp⟩ := hp
  refine r_newI (N' := 144) hx hb (hts _ k_114) hw hz (by decide) (by decide) (Nat.le_of_ble_eq_true rfl) hk_229.1 hk_229.2 dX7_init_213 (fun S_226 I_227 L_228 H eS_226 eI_227 eL_228 hw1 hz1 => ?_)
  replace hp := hp S_226 eS_226 I_227 eI_227 L_228 eL_228
  have hs_231 := sh_new hw hz (hs_225) eS_226
  have hs_230 : S_226 (z + 25) = some (sI G 144) := by rw [eS_226]; exact shu_at _ _ _
  have hw := hw1
  have hz := hz1
  obtain ⟨hv_233, hp⟩ := hp
  refine r_putF (C := RX7) (T := TX7) (N := 38) hx hb hts hown i_X7 tyX7 tyX7_ok nmX7 hw (hs_231) rfl rfl 27 (by decide) (hts _ k_695) rfl rfl hin rfl rfl (Nat.le_of_ble_eq_true rfl) (sModelK 26 a0) (by rw [hv_233]; rfl) dX7_init_215 (fun S_232 H locs eS_232 hw hz1 => ?_)
  replace hp := hp S_232 eS_232
  replace hz := hz1.trans hz
  have hs_234 : S_232 a0 = some (sModelK 26 a0) := by rw [eS_232]; exact shu_at _ _ _
  refine lv_aload_n hx hb dX7_init_218 rfl (lv_at hl 0 rfl) ?_
  refine lv_sipush (v := 144) hx hb dX7_init_219 (by decide) ?_
  obtain ⟨hk_238, hp⟩ := hp
  refine r_newZ (N' := 144) hx hb (hts _ k_137) hw hz (by decide) (by decide) (Nat.le_of_ble_eq_true rfl) hk_238.1 hk_238.2 dX7_init_222 (fun S_235 I_236 L_237 H eS_235 eI_236 eL_237 hw1 hz1 => ?_)
  replace hp := hp S_235 eS_235 I_236 eI_236 L_237 eL_237
  have hs_240 := sh_new hw hz (hs_234) eS_235
  have hs_239 : S_235 (z + 26) = some (sZ G 144) := by rw [eS_235]; exact shu_at _ _ _
  have hw := hw1
  have hz := hz1
  obtain ⟨hv_242, hp⟩ := hp
  refine r_putF (C := RX7) (T := TX7) (N := 38) hx hb hts hown i_X7 tyX7 tyX7_ok nmX7 hw (hs_240) rfl rfl 28 (by decide) (hts _ k_696) rfl rfl hin rfl rfl (Nat.le_of_ble_eq_true rfl) (sModelK 27 a0) (by rw [hv_242]; rfl) dX7_init_224 (fun S_241 H locs eS_241 hw hz1 => ?_)
  replace hp := hp S_241 eS_241
  replace hz := hz1.trans hz
  have hs_243 : S_241 a0 = some (sModelK 27 a0) := by rw [eS_241]; exact shu_at _ _ _
  refine lv_aload_n hx hb dX7_init_227 rfl (lv_at hl 0 rfl) ?_
  refine lv_sipush (v := 144) hx hb dX7_init_228 (by decide) ?_
  obtain ⟨hk_247, hp⟩ := hp
  refine r_newJ (N' := 144) hx hb (hts _ k_138) hw hz (by decide) (by decide) (Nat.le_of_ble_eq_true rfl) hk_247.1 hk_247.2 dX7_init_231 (fun S_244 I_245 L_246 H eS_244 eI_245 eL_246 hw1 hz1 => ?_)
  replace hp := hp S_244 eS_244 I_245 eI_245 L_246 eL_246
  have hs_249 := sh_new hw hz (hs_243) eS_244
  have hs_248 : S_244 (z + 27) = some (sJ G 144) := by rw [eS_244]; exact shu_at _ _ _
  have hw := hw1
  have hz := hz1
  obtain ⟨hv_251, hp⟩ := hp
  refine r_putF (C := RX7) (T := TX7) (N := 38) hx hb hts hown i_X7 tyX7 tyX7_ok nmX7 hw (hs_249) rfl rfl 29 (by decide) (hts _ k_697) rfl rfl hin rfl rfl (Nat.le_of_ble_eq_true rfl) (sModelK 28 a0) (by rw [hv_251]; rfl) dX7_init_233 (fun S_250 H locs eS_250 hw hz1 => ?_)
  replace hp := hp S_250 eS_250
  replace hz := hz1.trans hz
  have hs_252 : S_250 a0 = some (sModelK 28 a0) := by rw [eS_250]; exact shu_at _ _ _
  refine lv_aload_n hx hb dX7_init_236 rfl (lv_at hl 0 rfl) ?_
  refine lv_bipush (v := 6) hx hb dX7_init_237 (by decide) ?_
  obtain ⟨hk_256, hp⟩ := hp
  refine r_newJ (N' := 6) hx hb (hts _ k_138) hw hz (by decide) (by decide) (Nat.le_of_ble_eq_true rfl) hk_256.1 hk_256.2 dX7_init_239 (fun S_253 I_254 L_255 H eS_253 eI_254 eL_255 hw1 hz1 => ?_)
  replace hp := hp S_253 eS_253 I_254 eI_254 L_255 eL_255
  have hs_258 := sh_new hw hz (hs_252) eS_253
  have hs_257 : S_253 (z + 28) = some (sJ G 6) := by rw [eS_253]; exact shu_at _ _ _
  have hw := hw1
  have hz := hz1
  obtain ⟨hv_260, hp⟩ := hp
  refine r_putF (C := RX7) (T := TX7) (N := 38) hx hb hts hown i_X7 tyX7 tyX7_ok nmX7 hw (hs_258) rfl rfl 30 (by decide) (hts _ k_698) rfl rfl hin rfl rfl (Nat.le_of_ble_eq_true rfl) (sModelK 29 a0) (by rw [hv_260]; rfl) dX7_init_241 (fun S_259 H locs eS_259 hw hz1 => ?_)
  replace hp := hp S_259 eS_259
  replace hz := hz1.trans hz
  have hs_261 : S_259 a0 = some (sModelK 29 a0) := by rw [eS_259]; exact shu_at _ _ _
  refine lv_aload_n hx hb dX7_init_244 rfl (lv_at hl 0 rfl) ?_
  refine lv_bipush (v := 6) hx hb dX7_init_245 (by decide) ?_
  obtain ⟨hk_265, hp⟩ := hp
  refine r_newJ (N' := 6) hx hb (hts _ k_138) hw hz (by decide) (by decide) (Nat.le_of_ble_eq_true rfl) hk_265.1 hk_265.2 dX7_init_247 (fun S_262 I_263 L_264 H eS_262 eI_263 eL_264 hw1 hz1 => ?_)
  replace hp := hp S_262 eS_262 I_263 eI_263 L_264 eL_264
  have hs_267 := sh_new hw hz (hs_261) eS_262
  have hs_266 : S_262 (z + 29) = some (sJ G 6) := by rw [eS_262]; exact shu_at _ _ _
  have hw := hw1
  have hz := hz1
  obtain ⟨hv_269, hp⟩ := hp
  refine r_putF (C := RX7) (T := TX7) (N := 38) hx hb hts hown i_X7 tyX7 tyX7_ok nmX7 hw (hs_267) rfl rfl 31 (by decide) (hts _ k_699) rfl rfl hin rfl rfl (Nat.le_of_ble_eq_true rfl) (sModelK 30 a0) (by rw [hv_269]; rfl) dX7_init_249 (fun S_268 H locs eS_268 hw hz1 => ?_)
  replace hp := hp S_268 eS_268
  replace hz := hz1.trans hz
  have hs_270 : S_268 a0 = some (sModelK 30 a0) := by rw [eS_268]; exact shu_at _ _ _
  refine lv_aload_n hx hb dX7_init_252 rfl (lv_at hl 0 rfl) ?_
  refine lv_bipush (v := 6) hx hb dX7_init_253 (by decide) ?_
  obtain ⟨hk_274, hp⟩ := hp
  refine r_newI (N' := 6) hx hb (hts _ k_114) hw hz (by decide) (by decide) (Nat.le_of_ble_eq_true rfl) hk_274.1 hk_274.2 dX7_init_255 (fun S_271 I_272 L_273 H eS_271 eI_272 eL_273 hw1 hz1 => ?_)
  replace hp := hp S_271 eS_271 I_272 eI_272 L_273 eL_273
  have hs_276 := sh_new hw hz (hs_270) eS_271
  have hs_275 : S_271 (z + 30) = some (sI G 6) := by rw [eS_271]; exact shu_at _ _ _
  have hw := hw1
  have hz := hz1
  obtain ⟨hv_278, hp⟩ := hp
  refine r_putF (C := RX7) (T := TX7) (N := 38) hx hb hts hown i_X7 tyX7 tyX7_ok nmX7 hw (hs_276) rfl rfl 32 (by decide) (hts _ k_700) rfl rfl hin rfl rfl (Nat.le_of_ble_eq_true rfl) (sModelK 31 a0) (by rw [hv_278]; rfl) dX7_init_257 (fun S_277 H locs eS_277 hw hz1 => ?_)
  replace hp := hp S_277 eS_277
  replace hz := hz1.trans hz
  have hs_279 : S_277 a0 = some (sModelK 31 a0) := by rw [eS_277]; exact shu_at _ _ _
  refine lv_aload_n hx hb dX7_init_260 rfl (lv_at hl 0 rfl) ?_
  refine lv_bipush (v := 6) hx hb dX7_init_261 (by decide) ?_
  obtain ⟨hk_283, hp⟩ := hp
  refine r_newJ (N' := 6) hx hb (hts _ k_138) hw hz (by decide) (by decide) (Nat.le_of_ble_eq_true rfl) hk_283.1 hk_283.2 dX7_init_263 (fun S_280 I_281 L_282 H eS_280 eI_281 eL_282 hw1 hz1 => ?_)
  replace hp := hp S_280 eS_280 I_281 eI_281 L_282 eL_282
  have hs_285 := sh_new hw hz (hs_279) eS_280
  have hs_284 : S_280 (z + 31) = some (sJ G 6) := by rw [eS_280]; exact shu_at _ _ _
  have hw := hw1
  have hz := hz1
  obtain ⟨hv_287, hp⟩ := hp
  refine r_putF (C := RX7) (T := TX7) (N := 38) hx hb hts hown i_X7 tyX7 tyX7_ok nmX7 hw (hs_285) rfl rfl 33 (by decide) (hts _ k_701) rfl rfl hin rfl rfl (Nat.le_of_ble_eq_true rfl) (sModelK 32 a0) (by rw [hv_287]; rfl) dX7_init_265 (fun S_286 H locs eS_286 hw hz1 => ?_)
  replace hp := hp S_286 eS_286
  replace hz := hz1.trans hz
  have hs_288 : S_286 a0 = some (sModelK 32 a0) := by rw [eS_286]; exact shu_at _ _ _
  refine lv_aload_n hx hb dX7_init_268 rfl (lv_at hl 0 rfl) ?_
  refine lv_sipush (v := 480) hx hb dX7_init_269 (by decide) ?_
  obtain ⟨hk_292, hp⟩ := hp
  refine r_newI (N' := 480) hx hb (hts _ k_114) hw hz (by decide) (by decide) (Nat.le_of_ble_eq_true rfl) hk_292.1 hk_292.2 dX7_init_272 (fun S_289 I_290 L_291 H eS_289 eI_290 eL_291 hw1 hz1 => ?_)
  replace hp := hp S_289 eS_289 I_290 eI_290 L_291 eL_291
  have hs_294 := sh_new hw hz (hs_288) eS_289
  have hs_293 : S_289 (z + 32) = some (sI G 480) := by rw [eS_289]; exact shu_at _ _ _
  have hw := hw1
  have hz := hz1
  obtain ⟨hv_296, hp⟩ := hp
  refine r_putF (C := RX7) (T := TX7) (N := 38) hx hb hts hown i_X7 tyX7 tyX7_ok nmX7 hw (hs_294) rfl rfl 34 (by decide) (hts _ k_702) rfl rfl hin rfl rfl (Nat.le_of_ble_eq_true rfl) (sModelK 33 a0) (by rw [hv_296]; rfl) dX7_init_274 (fun S_295 H locs eS_295 hw hz1 => ?_)
  replace hp := hp S_295 eS_295
  replace hz := hz1.trans hz
  have hs_297 : S_295 a0 = some (sModelK 33 a0) := by rw [eS_295]; exact shu_at _ _ _
  refine lv_aload_n hx hb dX7_init_277 rfl (lv_at hl 0 rfl) ?_
  refine lv_sipush (v := 480) hx hb dX7_init_278 (by decide) ?_
  obtain ⟨hk_301, hp⟩ := hp
  refine r_newI (N' := 480) hx hb (hts _ k_114) hw hz (by decide) (by decide) (Nat.le_of_ble_eq_true rfl) hk_301.1 hk_301.2 dX7_init_281 (fun S_298 I_299 L_300 H eS_298 eI_299 eL_300 hw1 hz1 => ?_)
  replace hp := hp S_298 eS_298 I_299 eI_299 L_300 eL_300
  have hs_303 := sh_new hw hz (hs_297) eS_298
  have hs_302 : S_298 (z + 33) = some (sI G 480) := by rw [eS_298]; exact shu_at _ _ _
  have hw := hw1
  have hz := hz1
  obtain ⟨hv_305, hp⟩ := hp
  refine r_putF (C := RX7) (T := TX7) (N := 38) hx hb hts hown i_X7 tyX7 tyX7_ok nmX7 hw (hs_303) rfl rfl 35 (by decide) (hts _ k_703) rfl rfl hin rfl rfl (Nat.le_of_ble_eq_true rfl) (sModelK 34 a0) (by rw [hv_305]; rfl) dX7_init_283 (fun S_304 H locs eS_304 hw hz1 => ?_)
  replace hp := hp S_304 eS_304
  replace hz := hz1.trans hz
  have hs_306 : S_304 a0 = some (sModelK 34 a0) := by rw [eS_304]; exact shu_at _ _ _
  exact r_vretN hx hb hr hlocks hw hz hp dX7_init_286
