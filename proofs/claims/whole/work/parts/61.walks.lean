set_option maxHeartbeats 4000000 in
set_option maxRecDepth 100000 in
theorem w_X2_clear_2 {p : Program} {l : Launch} {e : Env} {s : State} {m : MethodId} {args : Array Value} {below : List Frame} {meth : Method} {c : Code} (C : Cx p s m args meth c cX2_clear none 2 RX2) {G : GX} {Sh : SH} {a0 : Nat} {K : MI → ML → Prop} (h0 : isNeeds G Sh a0) : ∀ (n : Nat) (xl1 : Int32) (I : MI) (L : ML) (H : Heap) (locs : List Loc) (ls : Array Slot), wp_X2_clear_2 G Sh a0 K n xl1 I L → mW G Sh s I L H locs → lv_has ls 2 [(0, .ref a0), (1, .int xl1)] → W p l e (rmA 1 23) s m args below meth c H locs 0 0 (eV below G Sh K args s) (F0 m 2 ls []) := by
  obtain ⟨hx, hb, hr, hml, hown, hts, hlocks⟩ := id C
  intro n
  induction n with
  | zero => intro xl1 I L H locs ls hp hw hl; exact hp.elim
  | succ n hB2 =>
    intro xl1 I L H locs ls hp hw hl
    replace hp : wb_X2_clear_2 G Sh a0 K (wp_X2_clear_2 G Sh a0 K n) xl1 I L := hp
    unfold wb_X2_clear_2 at hp
    refine lv_iload_n hx hb dX2_clear_2 rfl (lv_at hl 1 rfl) ?_
    refine lv_bipush (v := 24) hx hb dX2_clear_3 (by decide) ?_
    refine lv_icmp_ge (tgt := 24) hx hb dX2_clear_5 (by decide) (fun hc_1 => ?_) (fun hc_1 => ?_)
    · replace hp := hp.1 hc_1
      exact r_vret hx hb hr hlocks hw hp dX2_clear_24
    · replace hp := hp.2 hc_1
      refine lv_aload_n hx hb dX2_clear_8 rfl (lv_at hl 0 rfl) ?_
      refine gf_X2_11 hx hb hts hown hw (h0.1) dX2_clear_9 ?_
      refine lv_iload_n hx hb dX2_clear_12 rfl (lv_at hl 1 rfl) ?_
      obtain ⟨hi_2, hp⟩ := hp
      refine r_aaldRF hx hb hw (h0.2.1) hi_2 (b := (a0 + 2 + (xl1).toNatClampNeg)) (if_pos (vp_lt hi_2)) dX2_clear_13 ?_
      refine lv_iconst (v := (-1)) hx hb dX2_clear_14 (by decide) ?_
      refine r_csV (As := [.ref (a0 + 2 + (xl1).toNatClampNeg), .int (-1 : Int32)]) ⟨hx, hb, hml, hown, hts⟩ (c_J7_fill_53178 l G (h0.2.2 _ (vp_lt hi_2)) hp) (cw_X2_16 hts ⟨Nat.le_of_ble_eq_true rfl, Nat.le_of_ble_eq_true rfl⟩) hw rfl rfl hl.1 (Nat.le_of_ble_eq_true rfl) ⟨Nat.zero_le _, Nat.zero_le _⟩ dX2_clear_15 (fun I_4 L_5 H locs hp hw => ?_)
      obtain ⟨x_6, ex_6⟩ : ∃ z : Int32, z = xl1 + (1 : Int32) := ⟨_, rfl⟩
      replace hp := hp x_6 ex_6
      refine lv_iinc (v := x_6) (lv' := [(1, .int x_6), (0, .ref a0)]) hx hb dX2_clear_18 hl (k := 1) rfl (by rw [ex_6]; rfl) (by decide) rfl (fun ls hl => ?_)
      refine lv_goto (tgt := 2) hx hb dX2_clear_21 (by decide) ?_
      exact hB2 (x_6) _ _ _ _ _ hp hw (lv_sub hl [1, 0] rfl)
set_option maxHeartbeats 4000000 in
set_option maxRecDepth 100000 in
theorem c_X2_clear (l : Launch) (G : GX) {Sh : SH} {a0 : Nat} (h0 : isNeeds G Sh a0) {I : MI} {L : ML} {K : MI → ML → Prop} (hp : wp_X2_clear G Sh a0 I L K) : CtV l yX2_clear (wM yX2_clear cX2_clear 2 none) (rmA 1 23) G Sh [.ref a0] I L K := by
  refine ofA (own := RX2) (by decide) rfl (Nat.le_of_ble_eq_true rfl) ?_
  intro p e s m args below meth c ls C hw hl
  obtain ⟨hx, hb, hr, hml, hown, hts, hlocks⟩ := id C
  replace hl : lv_has ls 2 [(0, .ref a0)] := hl
  unfold wp_X2_clear at hp
  refine lv_iconst (v := 0) hx hb dX2_clear_0 (by decide) ?_
  refine lv_istore_n (lv' := [(1, .int (0 : Int32)), (0, .ref a0)]) hx hb dX2_clear_1 rfl hl (by decide) rfl (fun ls hl => ?_)
  obtain ⟨n, hp⟩ := hp
  exact w_X2_clear_2 C h0 n ((0 : Int32)) _ _ _ _ _ hp hw (lv_sub hl [1, 0] rfl)
set_option maxHeartbeats 4000000 in
set_option maxRecDepth 100000 in
theorem w_X1_gatherNeeds_53 {p : Program} {l : Launch} {e : Env} {s : State} {m : MethodId} {args : Array Value} {below : List Frame} {meth : Method} {c : Code} (C : Cx p s m args meth c cX1_gatherNeeds none 5 RX1) {G : GX} {Sh : SH} {a0 : Nat} {a1 : Nat} {B20 : Int32 → MI → ML → Prop} {K : MI → ML → Prop} (h0 : isLast G Sh a0) (h1 : isTable G Sh a1) (hB20 : ∀ (xl2 : Int32) (I : MI) (L : ML) (H : Heap) (locs : List Loc) (ls : Array Slot), B20 xl2 I L → mW G Sh s I L H locs → lv_has ls 5 [(0, .ref a0), (1, .ref a1), (2, .int xl2)] → W p l e (rmA 2 44) s m args below meth c H locs 0 0 (eV below G Sh K args s) (F0 m 20 ls [])) : ∀ (n : Nat) (xl2 : Int32) (wl3 : Nat) (xl4 : Int32) (hwl3 : isRow G Sh wl3) (I : MI) (L : ML) (H : Heap) (locs : List Loc) (ls : Array Slot), wp_X1_gatherNeeds_53 G Sh a0 a1 B20 K n xl2 wl3 xl4 I L → mW G Sh s I L H locs → lv_has ls 5 [(0, .ref a0), (1, .ref a1), (2, .int xl2), (3, .ref wl3), (4, .int xl4)] → W p l e (rmA 2 44) s m args below meth c H locs 0 0 (eV below G Sh K args s) (F0 m 53 ls []) := by
  obtain ⟨hx, hb, hr, hml, hown, hts, hlocks⟩ := id C
  intro n
  induction n with
  | zero => intro xl2 wl3 xl4 hwl3 I L H locs ls hp hw hl; exact hp.elim
  | succ n hB53 =>
    intro xl2 wl3 xl4 hwl3 I L H locs ls hp hw hl
    replace hp : wb_X1_gatherNeeds_53 G Sh a0 a1 B20 K (wp_X1_gatherNeeds_53 G Sh a0 a1 B20 K n) xl2 wl3 xl4 I L := hp
    unfold wb_X1_gatherNeeds_53 at hp
    refine lv_iload hx hb dX1_gatherNeeds_53 (lv_at hl 4 rfl) ?_
    refine lv_aload_n hx hb dX1_gatherNeeds_55 rfl (lv_at hl 3 rfl) ?_
    refine gf_X1_113 hx hb hts hown hw (hwl3.1) dX1_gatherNeeds_56 ?_
    refine lv_icmp_ge (tgt := 96) hx hb dX1_gatherNeeds_59 (by decide) (fun hc_8 => ?_) (fun hc_8 => ?_)
    · replace hp := hp.1 hc_8
      obtain ⟨x_9, ex_9⟩ : ∃ z : Int32, z = xl2 + (1 : Int32) := ⟨_, rfl⟩
      replace hp := hp x_9 ex_9
      refine lv_iinc (v := x_9) (lv' := [(2, .int x_9), (0, .ref a0), (1, .ref a1), (3, .ref wl3), (4, .int xl4)]) hx hb dX1_gatherNeeds_96 hl (k := 2) rfl (by rw [ex_9]; rfl) (by decide) rfl (fun ls hl => ?_)
      refine lv_goto (tgt := 20) hx hb dX1_gatherNeeds_99 (by decide) ?_
      exact hB20 (x_9) _ _ _ _ _ hp hw (lv_sub hl [1, 2, 0] rfl)
    · replace hp := hp.2 hc_8
      refine lv_aload_n hx hb dX1_gatherNeeds_62 rfl (lv_at hl 0 rfl) ?_
      refine gf_X1_35 hx hb hts hown hw (h0.1) dX1_gatherNeeds_63 ?_
      refine lv_aload_n hx hb dX1_gatherNeeds_66 rfl (lv_at hl 3 rfl) ?_
      refine gf_X1_116 hx hb hts hown hw (hwl3.1) dX1_gatherNeeds_67 ?_
      refine lv_iload hx hb dX1_gatherNeeds_70 (lv_at hl 4 rfl) ?_
      obtain ⟨hi_10, hp⟩ := hp
      refine r_iald hx hb hw (hwl3.2.2.1) hi_10 dX1_gatherNeeds_72 ?_
      refine lv_aload_n hx hb dX1_gatherNeeds_73 rfl (lv_at hl 3 rfl) ?_
      refine gf_X1_119 hx hb hts hown hw (hwl3.1) dX1_gatherNeeds_74 ?_
      refine lv_iload hx hb dX1_gatherNeeds_77 (lv_at hl 4 rfl) ?_
      obtain ⟨hi_11, hp⟩ := hp
      refine r_iald hx hb hw (hwl3.2.2.2) hi_11 dX1_gatherNeeds_79 ?_
      refine lv_aload_n hx hb dX1_gatherNeeds_80 rfl (lv_at hl 3 rfl) ?_
      refine gf_X1_122 hx hb hts hown hw (hwl3.1) dX1_gatherNeeds_81 ?_
      refine lv_iload hx hb dX1_gatherNeeds_84 (lv_at hl 4 rfl) ?_
      obtain ⟨hi_12, hp⟩ := hp
      refine r_iald hx hb hw (hwl3.2.1) hi_12 dX1_gatherNeeds_86 ?_
      refine r_cvV (As := [.int (I (wl3 + 2) (xl4).toNatClampNeg), .int (I (wl3 + 3) (xl4).toNatClampNeg), .int (I (wl3 + 1) (xl4).toNatClampNeg)]) ⟨hx, hb, hml, hown, hts⟩ (c_X2_add l G (h0.2.2.2.2.2.2.2) hp) (cw_X1_123 hts ⟨Nat.le_of_ble_eq_true rfl, Nat.le_of_ble_eq_true rfl⟩) hw (hw.recv (h0.2.2.2.2.2.2.2.1) rfl rfl) rfl rfl hl.1 (Nat.le_of_ble_eq_true rfl) ⟨Nat.zero_le _, Nat.zero_le _⟩ dX1_gatherNeeds_87 (fun I_14 L_15 H locs hp hw => ?_)
      obtain ⟨x_16, ex_16⟩ : ∃ z : Int32, z = xl4 + (1 : Int32) := ⟨_, rfl⟩
      replace hp := hp x_16 ex_16
      refine lv_iinc (v := x_16) (lv' := [(4, .int x_16), (0, .ref a0), (1, .ref a1), (2, .int xl2), (3, .ref wl3)]) hx hb dX1_gatherNeeds_90 hl (k := 4) rfl (by rw [ex_16]; rfl) (by decide) rfl (fun ls hl => ?_)
      refine lv_goto (tgt := 53) hx hb dX1_gatherNeeds_93 (by decide) ?_
      exact hB53 (xl2) (wl3) (x_16) (hwl3) _ _ _ _ _ hp hw (lv_sub hl [1, 2, 3, 4, 0] rfl)
set_option maxHeartbeats 4000000 in
set_option maxRecDepth 100000 in
theorem w_X1_gatherNeeds_20 {p : Program} {l : Launch} {e : Env} {s : State} {m : MethodId} {args : Array Value} {below : List Frame} {meth : Method} {c : Code} (C : Cx p s m args meth c cX1_gatherNeeds none 5 RX1) {G : GX} {Sh : SH} {a0 : Nat} {a1 : Nat} {K : MI → ML → Prop} (h0 : isLast G Sh a0) (h1 : isTable G Sh a1) : ∀ (n : Nat) (xl2 : Int32) (I : MI) (L : ML) (H : Heap) (locs : List Loc) (ls : Array Slot), wp_X1_gatherNeeds_20 G Sh a0 a1 K n xl2 I L → mW G Sh s I L H locs → lv_has ls 5 [(0, .ref a0), (1, .ref a1), (2, .int xl2)] → W p l e (rmA 2 44) s m args below meth c H locs 0 0 (eV below G Sh K args s) (F0 m 20 ls []) := by
  obtain ⟨hx, hb, hr, hml, hown, hts, hlocks⟩ := id C
  intro n
  induction n with
  | zero => intro xl2 I L H locs ls hp hw hl; exact hp.elim
  | succ n hB20 =>
    intro xl2 I L H locs ls hp hw hl
    replace hp : wb_X1_gatherNeeds_20 G Sh a0 a1 K (wp_X1_gatherNeeds_20 G Sh a0 a1 K n) xl2 I L := hp
    unfold wb_X1_gatherNeeds_20 at hp
    refine lv_iload_n hx hb dX1_gatherNeeds_20 rfl (lv_at hl 2 rfl) ?_
    refine lv_aload_n hx hb dX1_gatherNeeds_21 rfl (lv_at hl 1 rfl) ?_
    refine gf_X1_97 hx hb hts hown hw (h1.1) dX1_gatherNeeds_22 ?_
    refine lv_icmp_ge (tgt := 102) hx hb dX1_gatherNeeds_25 (by decide) (fun hc_5 => ?_) (fun hc_5 => ?_)
    · replace hp := hp.1 hc_5
      exact r_vret hx hb hr hlocks hw hp dX1_gatherNeeds_102
    · replace hp := hp.2 hc_5
      refine lv_aload_n hx hb dX1_gatherNeeds_28 rfl (lv_at hl 1 rfl) ?_
      refine gf_X1_100 hx hb hts hown hw (h1.1) dX1_gatherNeeds_29 ?_
      refine lv_iload_n hx hb dX1_gatherNeeds_32 rfl (lv_at hl 2 rfl) ?_
      obtain ⟨hi_6, hp⟩ := hp
      refine r_aaldF hx hb hw (h1.2.2.2.1) rfl hi_6 (b := (a1 + 54 + 4 * (xl2).toNatClampNeg)) (if_pos (vp_lt hi_6)) dX1_gatherNeeds_33 ?_
      refine lv_astore_n (lv' := [(3, .ref (a1 + 54 + 4 * (xl2).toNatClampNeg)), (0, .ref a0), (1, .ref a1), (2, .int xl2)]) hx hb dX1_gatherNeeds_34 rfl hl (by decide) rfl (fun ls hl => ?_)
      refine lv_aload_n hx hb dX1_gatherNeeds_35 rfl (lv_at hl 1 rfl) ?_
      refine lv_aload_n hx hb dX1_gatherNeeds_36 rfl (lv_at hl 1 rfl) ?_
      refine gf_X1_43 hx hb hts hown hw (h0.1) dX1_gatherNeeds_37 ?_
      refine lv_aload_n hx hb dX1_gatherNeeds_40 rfl (lv_at hl 0 rfl) ?_
      refine gf_X1_104 hx hb hts hown hw ((h1.2.2.2.2.2.2.2 _ (vp_lt hi_6)).1) dX1_gatherNeeds_41 ?_
      refine va_mmax hx hb (by rw [hml]; exact hl.1.symm) hown (hts _ k_448) (hts _ k_449) (hts _ k_44) (hts _ k_450) (Nat.le_of_ble_eq_true rfl) (Nat.le_of_ble_eq_true rfl) (Nat.zero_le _) (Nat.zero_le _) dX1_gatherNeeds_44 ?_
      refine pf_X1_43 hx hb hts hown hw (h0.1) dX1_gatherNeeds_47 (fun I_7 H locs eI_7 hw => ?_)
      replace hp := hp I_7 eI_7
      refine lv_iconst (v := 0) hx hb dX1_gatherNeeds_50 (by decide) ?_
      refine lv_istore (lv' := [(4, .int (0 : Int32)), (3, .ref (a1 + 54 + 4 * (xl2).toNatClampNeg)), (0, .ref a0), (1, .ref a1), (2, .int xl2)]) hx hb dX1_gatherNeeds_51 hl (by decide) rfl (fun ls hl => ?_)
      obtain ⟨n, hp⟩ := hp
      exact w_X1_gatherNeeds_53 C h0 h1 hB20 n (xl2) ((a1 + 54 + 4 * (xl2).toNatClampNeg)) ((0 : Int32)) ((h1.2.2.2.2.2.2.2 _ (vp_lt hi_6))) _ _ _ _ _ hp hw (lv_sub hl [2, 3, 4, 1, 0] rfl)
set_option maxHeartbeats 4000000 in
set_option maxRecDepth 100000 in
theorem c_X1_gatherNeeds (l : Launch) (G : GX) {Sh : SH} {a0 : Nat} {a1 : Nat} (h0 : isLast G Sh a0) (h1 : isTable G Sh a1) {I : MI} {L : ML} {K : MI → ML → Prop} (hp : wp_X1_gatherNeeds G Sh a0 a1 I L K) : CtV l yX1_gatherNeeds (wM yX1_gatherNeeds cX1_gatherNeeds 5 none) (rmA 2 44) G Sh [.ref a0, .ref a1] I L K := by
  refine ofA (own := RX1) (by decide) rfl (Nat.le_of_ble_eq_true rfl) ?_
  intro p e s m args below meth c ls C hw hl
  obtain ⟨hx, hb, hr, hml, hown, hts, hlocks⟩ := id C
  replace hl : lv_has ls 5 [(0, .ref a0), (1, .ref a1)] := hl
  unfold wp_X1_gatherNeeds at hp
  refine lv_aload_n hx hb dX1_gatherNeeds_0 rfl (lv_at hl 0 rfl) ?_
  refine gf_X1_35 hx hb hts hown hw (h0.1) dX1_gatherNeeds_1 ?_
  refine r_cvV (As := []) ⟨hx, hb, hml, hown, hts⟩ (c_X2_clear l G (h0.2.2.2.2.2.2.2) hp) (cw_X1_83 hts ⟨Nat.le_of_ble_eq_true rfl, Nat.le_of_ble_eq_true rfl⟩) hw (hw.recv (h0.2.2.2.2.2.2.2.1) rfl rfl) rfl rfl hl.1 (Nat.le_of_ble_eq_true rfl) ⟨Nat.zero_le _, Nat.zero_le _⟩ dX1_gatherNeeds_4 (fun I_2 L_3 H locs hp hw => ?_)
  refine lv_aload_n hx hb dX1_gatherNeeds_7 rfl (lv_at hl 0 rfl) ?_
  refine lv_aload_n hx hb dX1_gatherNeeds_8 rfl (lv_at hl 1 rfl) ?_
  refine gf_X1_86 hx hb hts hown hw (h1.1) dX1_gatherNeeds_9 ?_
  refine gf_X1_92 hx hb hts hown hw (h1.2.1.1) dX1_gatherNeeds_12 ?_
  refine pf_X1_43 hx hb hts hown hw (h0.1) dX1_gatherNeeds_15 (fun I_4 H locs eI_4 hw => ?_)
  replace hp := hp I_4 eI_4
  refine lv_iconst (v := 0) hx hb dX1_gatherNeeds_18 (by decide) ?_
  refine lv_istore_n (lv' := [(2, .int (0 : Int32)), (0, .ref a0), (1, .ref a1)]) hx hb dX1_gatherNeeds_19 rfl hl (by decide) rfl (fun ls hl => ?_)
  obtain ⟨n, hp⟩ := hp
  exact w_X1_gatherNeeds_20 C h0 h1 n ((0 : Int32)) _ _ _ _ _ hp hw (lv_sub hl [1, 2, 0] rfl)
set_option maxHeartbeats 4000000 in
set_option maxRecDepth 100000 in
theorem w_X1_greatestOrder_4 {p : Program} {l : Launch} {e : Env} {s : State} {m : MethodId} {args : Array Value} {below : List Frame} {meth : Method} {c : Code} (C : Cx p s m args meth c cX1_greatestOrder (some .int) 3 RX1) {G : GX} {Sh : SH} {a0 : Nat} {K : Int32 → MI → ML → Prop} (h0 : isLast G Sh a0) : ∀ (n : Nat) (xl1 : Int32) (xl2 : Int32) (I : MI) (L : ML) (H : Heap) (locs : List Loc) (ls : Array Slot), wp_X1_greatestOrder_4 G Sh a0 K n xl1 xl2 I L → mW G Sh s I L H locs → lv_has ls 3 [(0, .ref a0), (1, .int xl1), (2, .int xl2)] → W p l e (rmA 1 21) s m args below meth c H locs 0 0 (eI below G Sh K args s) (F0 m 4 ls []) := by
  obtain ⟨hx, hb, hr, hml, hown, hts, hlocks⟩ := id C
  intro n
  induction n with
  | zero => intro xl1 xl2 I L H locs ls hp hw hl; exact hp.elim
  | succ n hB4 =>
    intro xl1 xl2 I L H locs ls hp hw hl
    replace hp : wb_X1_greatestOrder_4 G Sh a0 K (wp_X1_greatestOrder_4 G Sh a0 K n) xl1 xl2 I L := hp
    unfold wb_X1_greatestOrder_4 at hp
    refine lv_iload_n hx hb dX1_greatestOrder_4 rfl (lv_at hl 2 rfl) ?_
    refine lv_aload_n hx hb dX1_greatestOrder_5 rfl (lv_at hl 0 rfl) ?_
    refine gf_X1_43 hx hb hts hown hw (h0.1) dX1_greatestOrder_6 ?_
    refine lv_icmp_gt (tgt := 47) hx hb dX1_greatestOrder_9 (by decide) (fun hc_1 => ?_) (fun hc_1 => ?_)
    · replace hp := hp.1 hc_1
      refine lv_iload_n hx hb dX1_greatestOrder_47 rfl (lv_at hl 1 rfl) ?_
      exact r_iret hx hb hr hlocks hw hp dX1_greatestOrder_48
    · replace hp := hp.2 hc_1
      refine lv_aload_n hx hb dX1_greatestOrder_12 rfl (lv_at hl 0 rfl) ?_
      refine gf_X1_50 hx hb hts hown hw (h0.1) dX1_greatestOrder_13 ?_
      refine lv_lconst (v := 0) hx hb dX1_greatestOrder_16 (by decide) ?_
      refine W.lcmp hx hb dX1_greatestOrder_17 ?_
      refine lv_if_eq (tgt := 47) hx hb dX1_greatestOrder_18 (by decide) (fun hc_2 => ?_) (fun hc_2 => ?_)
      · replace hp := hp.1 hc_2
        refine lv_iload_n hx hb dX1_greatestOrder_47 rfl (lv_at hl 1 rfl) ?_
        exact r_iret hx hb hr hlocks hw hp dX1_greatestOrder_48
      · replace hp := hp.2 hc_2
        refine lv_aload_n hx hb dX1_greatestOrder_21 rfl (lv_at hl 0 rfl) ?_
        refine gf_X1_26 hx hb hts hown hw (h0.1) dX1_greatestOrder_22 ?_
        refine lv_iload_n hx hb dX1_greatestOrder_25 rfl (lv_at hl 2 rfl) ?_
        obtain ⟨hi_3, hp⟩ := hp
        refine r_iald hx hb hw (h0.2.2.2.2.2.1) hi_3 dX1_greatestOrder_26 ?_
        refine lv_if_eq (tgt := 41) hx hb dX1_greatestOrder_27 (by decide) (fun hc_4 => ?_) (fun hc_4 => ?_)
        · replace hp := hp.1 hc_4
          obtain ⟨x_5, ex_5⟩ : ∃ z : Int32, z = xl2 + (1 : Int32) := ⟨_, rfl⟩
          replace hp := hp x_5 ex_5
          refine lv_iinc (v := x_5) (lv' := [(2, .int x_5), (0, .ref a0), (1, .int xl1)]) hx hb dX1_greatestOrder_41 hl (k := 2) rfl (by rw [ex_5]; rfl) (by decide) rfl (fun ls hl => ?_)
          refine lv_goto (tgt := 4) hx hb dX1_greatestOrder_44 (by decide) ?_
          exact hB4 (xl1) (x_5) _ _ _ _ _ hp hw (lv_sub hl [1, 2, 0] rfl)
        · replace hp := hp.2 hc_4
          refine lv_iload_n hx hb dX1_greatestOrder_30 rfl (lv_at hl 1 rfl) ?_
          refine lv_aload_n hx hb dX1_greatestOrder_31 rfl (lv_at hl 0 rfl) ?_
          refine gf_X1_29 hx hb hts hown hw (h0.1) dX1_greatestOrder_32 ?_
          refine lv_iload_n hx hb dX1_greatestOrder_35 rfl (lv_at hl 2 rfl) ?_
          obtain ⟨hi_6, hp⟩ := hp
          refine r_iald hx hb hw (h0.2.2.2.2.2.2.1) hi_6 dX1_greatestOrder_36 ?_
          refine va_mmax hx hb (by rw [hml]; exact hl.1.symm) hown (hts _ k_448) (hts _ k_449) (hts _ k_44) (hts _ k_450) (Nat.le_of_ble_eq_true rfl) (Nat.le_of_ble_eq_true rfl) (Nat.zero_le _) (Nat.zero_le _) dX1_greatestOrder_37 ?_
          refine lv_topi (fun x_7 ex_7 => ?_)
          replace hp := hp x_7 ex_7
          refine lv_istore_n (lv' := [(1, .int x_7), (0, .ref a0), (2, .int xl2)]) hx hb dX1_greatestOrder_40 rfl hl (by decide) rfl (fun ls hl => ?_)
          obtain ⟨x_8, ex_8⟩ : ∃ z : Int32, z = xl2 + (1 : Int32) := ⟨_, rfl⟩
          replace hp := hp x_8 ex_8
          refine lv_iinc (v := x_8) (lv' := [(2, .int x_8), (1, .int x_7), (0, .ref a0)]) hx hb dX1_greatestOrder_41 hl (k := 2) rfl (by rw [ex_8]; rfl) (by decide) rfl (fun ls hl => ?_)
          refine lv_goto (tgt := 4) hx hb dX1_greatestOrder_44 (by decide) ?_
          exact hB4 (x_7) (x_8) _ _ _ _ _ hp hw (lv_sub hl [2, 1, 0] rfl)
set_option maxHeartbeats 4000000 in
set_option maxRecDepth 100000 in
theorem c_X1_greatestOrder (l : Launch) (G : GX) {Sh : SH} {a0 : Nat} (h0 : isLast G Sh a0) {I : MI} {L : ML} {K : Int32 → MI → ML → Prop} (hp : wp_X1_greatestOrder G Sh a0 I L K) : CtI l yX1_greatestOrder (wM yX1_greatestOrder cX1_greatestOrder 3 (some .int)) (rmA 1 21) G Sh [.ref a0] I L K := by
  refine ofA (own := RX1) (by decide) rfl (Nat.le_of_ble_eq_true rfl) ?_
  intro p e s m args below meth c ls C hw hl
  obtain ⟨hx, hb, hr, hml, hown, hts, hlocks⟩ := id C
  replace hl : lv_has ls 3 [(0, .ref a0)] := hl
  unfold wp_X1_greatestOrder at hp
  refine lv_iconst (v := (-1)) hx hb dX1_greatestOrder_0 (by decide) ?_
  refine lv_istore_n (lv' := [(1, .int (-1 : Int32)), (0, .ref a0)]) hx hb dX1_greatestOrder_1 rfl hl (by decide) rfl (fun ls hl => ?_)
  refine lv_iconst (v := 0) hx hb dX1_greatestOrder_2 (by decide) ?_
  refine lv_istore_n (lv' := [(2, .int (0 : Int32)), (1, .int (-1 : Int32)), (0, .ref a0)]) hx hb dX1_greatestOrder_3 rfl hl (by decide) rfl (fun ls hl => ?_)
  obtain ⟨n, hp⟩ := hp
  exact w_X1_greatestOrder_4 C h0 n ((-1 : Int32)) ((0 : Int32)) _ _ _ _ _ hp hw (lv_sub hl [2, 1, 0] rfl)
set_option maxHeartbeats 4000000 in
set_option maxRecDepth 100000 in
theorem c_X1_setWidth (l : Launch) (G : GX) {Sh : SH} {a0 : Nat} (h0 : isLast G Sh a0) {I : MI} {L : ML} {K : Int64 → MI → ML → Prop} (hp : wp_X1_setWidth G Sh a0 I L K) : CtL l yX1_setWidth (wM yX1_setWidth cX1_setWidth 1 (some .long)) (rmA 0 0) G Sh [.ref a0] I L K := by
  refine ofA (own := RX1) (by decide) rfl (Nat.le_of_ble_eq_true rfl) ?_
  intro p e s m args below meth c ls C hw hl
  obtain ⟨hx, hb, hr, hml, hown, hts, hlocks⟩ := id C
  replace hl : lv_has ls 1 [(0, .ref a0)] := hl
  unfold wp_X1_setWidth at hp
  refine lv_aload_n hx hb dX1_setWidth_0 rfl (lv_at hl 0 rfl) ?_
  refine gf_X1_46 hx hb hts hown hw (h0.1) dX1_setWidth_1 ?_
  refine lv_aload_n hx hb dX1_setWidth_4 rfl (lv_at hl 0 rfl) ?_
  refine gf_X1_50 hx hb hts hown hw (h0.1) dX1_setWidth_5 ?_
  refine lv_ladd hx hb dX1_setWidth_8 ?_
  exact r_lret hx hb hr hlocks hw hp dX1_setWidth_9
set_option maxHeartbeats 4000000 in
set_option maxRecDepth 100000 in
theorem c_X1_isNestable (l : Launch) (G : GX) {Sh : SH} {a0 : Nat} (h0 : isLast G Sh a0) {I : MI} {L : ML} {K : Int32 → MI → ML → Prop} (hp : wp_X1_isNestable G Sh a0 I L K) : CtI l yX1_isNestable (wM yX1_isNestable cX1_isNestable 1 (some .boolean)) (rmA 1 20) G Sh [.ref a0] I L K := by
  refine ofA (own := RX1) (by decide) rfl (Nat.le_of_ble_eq_true rfl) ?_
  intro p e s m args below meth c ls C hw hl
  obtain ⟨hx, hb, hr, hml, hown, hts, hlocks⟩ := id C
  replace hl : lv_has ls 1 [(0, .ref a0)] := hl
  unfold wp_X1_isNestable at hp
  refine lv_aload_n hx hb dX1_isNestable_0 rfl (lv_at hl 0 rfl) ?_
  refine gf_X1_39 hx hb hts hown hw (h0.1) dX1_isNestable_1 ?_
  refine lv_if_le (tgt := 31) hx hb dX1_isNestable_4 (by decide) (fun hc_1 => ?_) (fun hc_1 => ?_)
  · replace hp := hp.1 hc_1
    refine lv_iconst (v := 0) hx hb dX1_isNestable_31 (by decide) ?_
    exact r_zret hx hb hr hlocks hw ⟨rfl, hp⟩ dX1_isNestable_32
  · replace hp := hp.2 hc_1
    refine lv_aload_n hx hb dX1_isNestable_7 rfl (lv_at hl 0 rfl) ?_
    refine r_cvL (As := []) ⟨hx, hb, hml, hown, hts⟩ (c_X1_setWidth l G (h0) hp) (cw_X1_80 hts ⟨Nat.le_of_ble_eq_true rfl, Nat.le_of_ble_eq_true rfl⟩) hw (hw.recv (h0.1) rfl rfl) rfl rfl hl.1 (Nat.le_of_ble_eq_true rfl) ⟨Nat.zero_le _, Nat.zero_le _⟩ dX1_isNestable_8 (fun r_2 I_3 L_4 H locs hp hw => ?_)
    refine lv_lconst (v := 0) hx hb dX1_isNestable_11 (by decide) ?_
    refine W.lcmp hx hb dX1_isNestable_12 ?_
    refine lv_if_lt (tgt := 31) hx hb dX1_isNestable_13 (by decide) (fun hc_5 => ?_) (fun hc_5 => ?_)
    · replace hp := hp.1 hc_5
      refine lv_iconst (v := 0) hx hb dX1_isNestable_31 (by decide) ?_
      exact r_zret hx hb hr hlocks hw ⟨rfl, hp⟩ dX1_isNestable_32
    · replace hp := hp.2 hc_5
      refine lv_aload_n hx hb dX1_isNestable_16 rfl (lv_at hl 0 rfl) ?_
      refine r_cvL (As := []) ⟨hx, hb, hml, hown, hts⟩ (c_X1_setWidth l G (h0) hp) (cw_X1_80 hts ⟨Nat.le_of_ble_eq_true rfl, Nat.le_of_ble_eq_true rfl⟩) hw (hw.recv (h0.1) rfl rfl) rfl rfl hl.1 (Nat.le_of_ble_eq_true rfl) ⟨Nat.zero_le _, Nat.zero_le _⟩ dX1_isNestable_17 (fun r_6 I_7 L_8 H locs hp hw => ?_)
      refine lv_ldc2 hx hb hown (hts _ k_407) dX1_isNestable_20 ?_
      refine W.lcmp hx hb dX1_isNestable_23 ?_
      refine lv_if_gt (tgt := 31) hx hb dX1_isNestable_24 (by decide) (fun hc_9 => ?_) (fun hc_9 => ?_)
      · replace hp := hp.1 hc_9
        refine lv_iconst (v := 0) hx hb dX1_isNestable_31 (by decide) ?_
        exact r_zret hx hb hr hlocks hw ⟨rfl, hp⟩ dX1_isNestable_32
      · replace hp := hp.2 hc_9
        refine lv_iconst (v := 1) hx hb dX1_isNestable_27 (by decide) ?_
        refine lv_goto (tgt := 32) hx hb dX1_isNestable_28 (by decide) ?_
        exact r_zret hx hb hr hlocks hw ⟨rfl, hp⟩ dX1_isNestable_32
set_option maxHeartbeats 4000000 in
set_option maxRecDepth 100000 in
theorem w_X1_naturalWidth_10 {p : Program} {l : Launch} {e : Env} {s : State} {m : MethodId} {args : Array Value} {below : List Frame} {meth : Method} {c : Code} (C : Cx p s m args meth c cX1_naturalWidth (some .long) 4 RX1) {G : GX} {Sh : SH} {a0 : Nat} {K : Int64 → MI → ML → Prop} (h0 : isLast G Sh a0) : ∀ (n : Nat) (yl1 : Int64) (xl3 : Int32) (I : MI) (L : ML) (H : Heap) (locs : List Loc) (ls : Array Slot), wp_X1_naturalWidth_10 G Sh a0 K n yl1 xl3 I L → mW G Sh s I L H locs → lv_has ls 4 [(0, .ref a0), (1, .long yl1), (3, .int xl3)] → W p l e (rmA 0 0) s m args below meth c H locs 0 0 (eL below G Sh K args s) (F0 m 10 ls []) := by
  obtain ⟨hx, hb, hr, hml, hown, hts, hlocks⟩ := id C
  intro n
  induction n with
  | zero => intro yl1 xl3 I L H locs ls hp hw hl; exact hp.elim
  | succ n hB10 =>
    intro yl1 xl3 I L H locs ls hp hw hl
    replace hp : wb_X1_naturalWidth_10 G Sh a0 K (wp_X1_naturalWidth_10 G Sh a0 K n) yl1 xl3 I L := hp
    unfold wb_X1_naturalWidth_10 at hp
    refine lv_iload_n hx hb dX1_naturalWidth_10 rfl (lv_at hl 2 rfl) ?_
    refine lv_aload_n hx hb dX1_naturalWidth_11 rfl (lv_at hl 0 rfl) ?_
    refine gf_X1_43 hx hb hts hown hw (h0.1) dX1_naturalWidth_12 ?_
    refine lv_icmp_ge (tgt := 43) hx hb dX1_naturalWidth_15 (by decide) (fun hc_3 => ?_) (fun hc_3 => ?_)
    · replace hp := hp.1 hc_3
      refine lv_lload_n hx hb dX1_naturalWidth_43 rfl (lv_at hl 1 rfl) ?_
      exact r_lret hx hb hr hlocks hw hp dX1_naturalWidth_44
    · replace hp := hp.2 hc_3
      refine lv_lload_n hx hb dX1_naturalWidth_18 rfl (lv_at hl 1 rfl) ?_
      refine lv_aload_n hx hb dX1_naturalWidth_19 rfl (lv_at hl 0 rfl) ?_
      refine gf_X1_9 hx hb hts hown hw (h0.1) dX1_naturalWidth_20 ?_
      refine lv_iload_n hx hb dX1_naturalWidth_23 rfl (lv_at hl 2 rfl) ?_
      obtain ⟨hi_4, hp⟩ := hp
      refine r_iald hx hb hw (h0.2.1) hi_4 dX1_naturalWidth_24 ?_
      refine lv_aload_n hx hb dX1_naturalWidth_25 rfl (lv_at hl 0 rfl) ?_
      refine gf_X1_23 hx hb hts hown hw (h0.1) dX1_naturalWidth_26 ?_
      refine lv_iload_n hx hb dX1_naturalWidth_29 rfl (lv_at hl 2 rfl) ?_
      refine lv_iconst (v := 1) hx hb dX1_naturalWidth_30 (by decide) ?_
      refine lv_iadd hx hb dX1_naturalWidth_31 ?_
      refine lv_topi (fun x_5 ex_5 => ?_)
      replace hp := hp x_5 ex_5
      obtain ⟨hi_6, hp⟩ := hp
      refine r_iald hx hb hw (h0.2.2.2.2.1) hi_6 dX1_naturalWidth_32 ?_
      refine lv_iadd hx hb dX1_naturalWidth_33 ?_
      refine lv_i2l hx hb dX1_naturalWidth_34 rfl ?_
      refine lv_ladd hx hb dX1_naturalWidth_35 ?_
      refine lv_topl (fun y_7 ey_7 => ?_)
      replace hp := hp y_7 ey_7
      refine lv_lstore_n (lv' := [(1, .long y_7), (0, .ref a0), (3, .int xl3)]) hx hb dX1_naturalWidth_36 rfl hl (by decide) rfl (fun ls hl => ?_)
      obtain ⟨x_8, ex_8⟩ : ∃ z : Int32, z = xl3 + (1 : Int32) := ⟨_, rfl⟩
      replace hp := hp x_8 ex_8
      refine lv_iinc (v := x_8) (lv' := [(3, .int x_8), (1, .long y_7), (0, .ref a0)]) hx hb dX1_naturalWidth_37 hl (k := 2) rfl (by rw [ex_8]; rfl) (by decide) rfl (fun ls hl => ?_)
      refine lv_goto (tgt := 10) hx hb dX1_naturalWidth_40 (by decide) ?_
      exact hB10 (y_7) (x_8) _ _ _ _ _ hp hw (lv_sub hl [2, 1, 0] rfl)
set_option maxHeartbeats 4000000 in
set_option maxRecDepth 100000 in
theorem c_X1_naturalWidth (l : Launch) (G : GX) {Sh : SH} {a0 : Nat} (h0 : isLast G Sh a0) {I : MI} {L : ML} {K : Int64 → MI → ML → Prop} (hp : wp_X1_naturalWidth G Sh a0 I L K) : CtL l yX1_naturalWidth (wM yX1_naturalWidth cX1_naturalWidth 4 (some .long)) (rmA 0 0) G Sh [.ref a0] I L K := by
  refine ofA (own := RX1) (by decide) rfl (Nat.le_of_ble_eq_true rfl) ?_
  intro p e s m args below meth c ls C hw hl
  obtain ⟨hx, hb, hr, hml, hown, hts, hlocks⟩ := id C
  replace hl : lv_has ls 4 [(0, .ref a0)] := hl
  unfold wp_X1_naturalWidth at hp
  refine lv_aload_n hx hb dX1_naturalWidth_0 rfl (lv_at hl 0 rfl) ?_
  refine gf_X1_23 hx hb hts hown hw (h0.1) dX1_naturalWidth_1 ?_
  refine lv_iconst (v := 0) hx hb dX1_naturalWidth_4 (by decide) ?_
  obtain ⟨hi_1, hp⟩ := hp
  refine r_iald hx hb hw (h0.2.2.2.2.1) hi_1 dX1_naturalWidth_5 ?_
  refine lv_i2l hx hb dX1_naturalWidth_6 rfl ?_
  refine lv_topl (fun y_2 ey_2 => ?_)
  replace hp := hp y_2 ey_2
  refine lv_lstore_n (lv' := [(1, .long y_2), (0, .ref a0)]) hx hb dX1_naturalWidth_7 rfl hl (by decide) rfl (fun ls hl => ?_)
  refine lv_iconst (v := 0) hx hb dX1_naturalWidth_8 (by decide) ?_
  refine lv_istore_n (lv' := [(3, .int (0 : Int32)), (1, .long y_2), (0, .ref a0)]) hx hb dX1_naturalWidth_9 rfl hl (by decide) rfl (fun ls hl => ?_)
  obtain ⟨n, hp⟩ := hp
  exact w_X1_naturalWidth_10 C h0 n (y_2) ((0 : Int32)) _ _ _ _ _ hp hw (lv_sub hl [2, 1, 0] rfl)
set_option maxHeartbeats 4000000 in
set_option maxRecDepth 100000 in
theorem w_X1_wholeSum_4 {p : Program} {l : Launch} {e : Env} {s : State} {m : MethodId} {args : Array Value} {below : List Frame} {meth : Method} {c : Code} (C : Cx p s m args meth c cX1_wholeSum (some .long) 4 RX1) {G : GX} {Sh : SH} {a0 : Nat} {K : Int64 → MI → ML → Prop} (h0 : isLast G Sh a0) : ∀ (n : Nat) (yl1 : Int64) (xl3 : Int32) (I : MI) (L : ML) (H : Heap) (locs : List Loc) (ls : Array Slot), wp_X1_wholeSum_4 G Sh a0 K n yl1 xl3 I L → mW G Sh s I L H locs → lv_has ls 4 [(0, .ref a0), (1, .long yl1), (3, .int xl3)] → W p l e (rmA 1 21) s m args below meth c H locs 0 0 (eL below G Sh K args s) (F0 m 4 ls []) := by
  obtain ⟨hx, hb, hr, hml, hown, hts, hlocks⟩ := id C
  intro n
  induction n with
  | zero => intro yl1 xl3 I L H locs ls hp hw hl; exact hp.elim
  | succ n hB4 =>
    intro yl1 xl3 I L H locs ls hp hw hl
    replace hp : wb_X1_wholeSum_4 G Sh a0 K (wp_X1_wholeSum_4 G Sh a0 K n) yl1 xl3 I L := hp
    unfold wb_X1_wholeSum_4 at hp
    refine lv_iload_n hx hb dX1_wholeSum_4 rfl (lv_at hl 2 rfl) ?_
    refine lv_aload_n hx hb dX1_wholeSum_5 rfl (lv_at hl 0 rfl) ?_
    refine gf_X1_43 hx hb hts hown hw (h0.1) dX1_wholeSum_6 ?_
    refine lv_icmp_gt (tgt := 26) hx hb dX1_wholeSum_9 (by decide) (fun hc_1 => ?_) (fun hc_1 => ?_)
    · replace hp := hp.1 hc_1
      refine lv_lload_n hx hb dX1_wholeSum_26 rfl (lv_at hl 1 rfl) ?_
      exact r_lret hx hb hr hlocks hw hp dX1_wholeSum_27
    · replace hp := hp.2 hc_1
      refine lv_lload_n hx hb dX1_wholeSum_12 rfl (lv_at hl 1 rfl) ?_
      refine lv_aload_n hx hb dX1_wholeSum_13 rfl (lv_at hl 0 rfl) ?_
      refine lv_iload_n hx hb dX1_wholeSum_14 rfl (lv_at hl 2 rfl) ?_
      refine r_cvL (As := [.int xl3]) ⟨hx, hb, hml, hown, hts⟩ (c_X1_giveOf l G (h0) hp) (cw_X1_156 hts ⟨Nat.le_of_ble_eq_true rfl, Nat.le_of_ble_eq_true rfl⟩) hw (hw.recv (h0.1) rfl rfl) rfl rfl hl.1 (Nat.le_of_ble_eq_true rfl) ⟨Nat.zero_le _, Nat.zero_le _⟩ dX1_wholeSum_15 (fun r_2 I_3 L_4 H locs hp hw => ?_)
      refine lv_ladd hx hb dX1_wholeSum_18 ?_
      refine lv_topl (fun y_5 ey_5 => ?_)
      replace hp := hp y_5 ey_5
      refine lv_lstore_n (lv' := [(1, .long y_5), (0, .ref a0), (3, .int xl3)]) hx hb dX1_wholeSum_19 rfl hl (by decide) rfl (fun ls hl => ?_)
      obtain ⟨x_6, ex_6⟩ : ∃ z : Int32, z = xl3 + (1 : Int32) := ⟨_, rfl⟩
      replace hp := hp x_6 ex_6
      refine lv_iinc (v := x_6) (lv' := [(3, .int x_6), (1, .long y_5), (0, .ref a0)]) hx hb dX1_wholeSum_20 hl (k := 2) rfl (by rw [ex_6]; rfl) (by decide) rfl (fun ls hl => ?_)
      refine lv_goto (tgt := 4) hx hb dX1_wholeSum_23 (by decide) ?_
      exact hB4 (y_5) (x_6) _ _ _ _ _ hp hw (lv_sub hl [2, 1, 0] rfl)
set_option maxHeartbeats 4000000 in
set_option maxRecDepth 100000 in
theorem c_X1_wholeSum (l : Launch) (G : GX) {Sh : SH} {a0 : Nat} (h0 : isLast G Sh a0) {I : MI} {L : ML} {K : Int64 → MI → ML → Prop} (hp : wp_X1_wholeSum G Sh a0 I L K) : CtL l yX1_wholeSum (wM yX1_wholeSum cX1_wholeSum 4 (some .long)) (rmA 1 21) G Sh [.ref a0] I L K := by
  refine ofA (own := RX1) (by decide) rfl (Nat.le_of_ble_eq_true rfl) ?_
  intro p e s m args below meth c ls C hw hl
  obtain ⟨hx, hb, hr, hml, hown, hts, hlocks⟩ := id C
  replace hl : lv_has ls 4 [(0, .ref a0)] := hl
  unfold wp_X1_wholeSum at hp
  refine lv_lconst (v := 0) hx hb dX1_wholeSum_0 (by decide) ?_
  refine lv_lstore_n (lv' := [(1, .long (0 : Int64)), (0, .ref a0)]) hx hb dX1_wholeSum_1 rfl hl (by decide) rfl (fun ls hl => ?_)
  refine lv_iconst (v := 0) hx hb dX1_wholeSum_2 (by decide) ?_
  refine lv_istore_n (lv' := [(3, .int (0 : Int32)), (1, .long (0 : Int64)), (0, .ref a0)]) hx hb dX1_wholeSum_3 rfl hl (by decide) rfl (fun ls hl => ?_)
  obtain ⟨n, hp⟩ := hp
  exact w_X1_wholeSum_4 C h0 n ((0 : Int64)) ((0 : Int32)) _ _ _ _ _ hp hw (lv_sub hl [2, 1, 0] rfl)
set_option maxHeartbeats 4000000 in
set_option maxRecDepth 100000 in
theorem w_X1_share_53 {p : Program} {l : Launch} {e : Env} {s : State} {m : MethodId} {args : Array Value} {below : List Frame} {meth : Method} {c : Code} (C : Cx p s m args meth c cX1_share none 7 RX1) {G : GX} {Sh : SH} {a0 : Nat} {K : MI → ML → Prop} (h0 : isLast G Sh a0) : ∀ (yl1 : Int64) (yl3 : Int64) (yl5 : Int64) (I : MI) (L : ML) (H : Heap) (locs : List Loc) (ls : Array Slot), wp_X1_share_53 G Sh a0 K yl1 yl3 yl5 I L → mW G Sh s I L H locs → lv_has ls 7 [(0, .ref a0), (1, .long yl1), (3, .long yl3), (5, .long yl5)] → W p l e (rmA 2 52) s m args below meth c H locs 0 0 (eV below G Sh K args s) (F0 m 53 ls []) := by
  obtain ⟨hx, hb, hr, hml, hown, hts, hlocks⟩ := id C
  intro yl1 yl3 yl5 I L H locs ls hp hw hl
  unfold wp_X1_share_53 at hp
  refine lv_aload_n hx hb dX1_share_53 rfl (lv_at hl 0 rfl) ?_
  refine lv_lload_n hx hb dX1_share_54 rfl (lv_at hl 2 rfl) ?_
  refine lv_lload hx hb dX1_share_55 (lv_at hl 3 rfl) ?_
  refine lv_lsub hx hb dX1_share_57 ?_
  refine pf_X1_56 hx hb hts hown hw (h0.1) dX1_share_58 (fun L_9 H locs eL_9 hw => ?_)
  replace hp := hp L_9 eL_9
  refine lv_aload_n hx hb dX1_share_61 rfl (lv_at hl 0 rfl) ?_
  refine lv_lload hx hb dX1_share_62 (lv_at hl 3 rfl) ?_
  refine lv_lload_n hx hb dX1_share_64 rfl (lv_at hl 1 rfl) ?_
  refine r_cvV (As := [.long yl5, .long yl1]) ⟨hx, hb, hml, hown, hts⟩ (c_X1_findPlaces l G (h0) hp) (cw_X1_171 hts ⟨Nat.le_of_ble_eq_true rfl, Nat.le_of_ble_eq_true rfl⟩) hw (hw.recv (h0.1) rfl rfl) rfl rfl hl.1 (Nat.le_of_ble_eq_true rfl) ⟨Nat.zero_le _, Nat.zero_le _⟩ dX1_share_65 (fun I_11 L_12 H locs hp hw => ?_)
  exact r_vret hx hb hr hlocks hw hp dX1_share_68
set_option maxHeartbeats 4000000 in
set_option maxRecDepth 100000 in
theorem c_X1_share (l : Launch) (G : GX) {Sh : SH} {a0 : Nat} (h0 : isLast G Sh a0) {I : MI} {L : ML} {K : MI → ML → Prop} (hp : wp_X1_share G Sh a0 I L K) : CtV l yX1_share (wM yX1_share cX1_share 7 none) (rmA 2 52) G Sh [.ref a0] I L K := by
  refine ofA (own := RX1) (by decide) rfl (Nat.le_of_ble_eq_true rfl) ?_
  intro p e s m args below meth c ls C hw hl
  obtain ⟨hx, hb, hr, hml, hown, hts, hlocks⟩ := id C
  replace hl : lv_has ls 7 [(0, .ref a0)] := hl
  unfold wp_X1_share at hp
  refine lv_aload_n hx hb dX1_share_0 rfl (lv_at hl 0 rfl) ?_
  refine r_cvL (As := []) ⟨hx, hb, hml, hown, hts⟩ (c_X1_wholeSum l G (h0) hp) (cw_X1_160 hts ⟨Nat.le_of_ble_eq_true rfl, Nat.le_of_ble_eq_true rfl⟩) hw (hw.recv (h0.1) rfl rfl) rfl rfl hl.1 (Nat.le_of_ble_eq_true rfl) ⟨Nat.zero_le _, Nat.zero_le _⟩ dX1_share_1 (fun r_1 I_2 L_3 H locs hp hw => ?_)
  refine lv_lstore_n (lv' := [(1, .long r_1), (0, .ref a0)]) hx hb dX1_share_4 rfl hl (by decide) rfl (fun ls hl => ?_)
  refine lv_aload_n hx hb dX1_share_5 rfl (lv_at hl 1 rfl) ?_
  refine gf_X1_50 hx hb hts hown hw (h0.1) dX1_share_6 ?_
  refine va_mabs_long hx hb (by rw [hml]; exact hl.1.symm) hown (hts _ k_498) (hts _ k_499) (hts _ k_44) (hts _ k_500) (Nat.le_of_ble_eq_true rfl) (Nat.le_of_ble_eq_true rfl) (Nat.zero_le _) (Nat.zero_le _) dX1_share_9 ?_
  refine lv_topl (fun y_4 ey_4 => ?_)
  replace hp := hp y_4 ey_4
  refine lv_lstore_n (lv' := [(3, .long y_4), (1, .long r_1), (0, .ref a0)]) hx hb dX1_share_12 rfl hl (by decide) rfl (fun ls hl => ?_)
  refine lv_lload_n hx hb dX1_share_13 rfl (lv_at hl 0 rfl) ?_
  refine lv_lstore (lv' := [(5, .long y_4), (3, .long y_4), (1, .long r_1), (0, .ref a0)]) hx hb dX1_share_14 hl (by decide) rfl (fun ls hl => ?_)
  refine lv_aload_n hx hb dX1_share_16 rfl (lv_at hl 3 rfl) ?_
  refine gf_X1_53 hx hb hts hown hw (h0.1) dX1_share_17 ?_
  refine lv_iconst (v := (-1)) hx hb dX1_share_20 (by decide) ?_
  refine lv_icmp_ne (tgt := 30) hx hb dX1_share_21 (by decide) (fun hc_5 => ?_) (fun hc_5 => ?_)
  · replace hp := hp.2 hc_5
    refine lv_aload_n hx hb dX1_share_30 rfl (lv_at hl 3 rfl) ?_
    refine gf_X1_53 hx hb hts hown hw (h0.1) dX1_share_31 ?_
    refine lv_if_ne (tgt := 53) hx hb dX1_share_34 (by decide) (fun hc_6 => ?_) (fun hc_6 => ?_)
    · replace hp := hp.2 hc_6
      exact w_X1_share_53 C h0 (r_1) (y_4) (y_4) _ _ _ _ _ hp hw (lv_sub hl [3, 2, 1, 0] rfl)
    · replace hp := hp.1 hc_6
      refine lv_aload_n hx hb dX1_share_37 rfl (lv_at hl 3 rfl) ?_
      refine gf_X1_50 hx hb hts hown hw (h0.1) dX1_share_38 ?_
      refine lv_lconst (v := 0) hx hb dX1_share_41 (by decide) ?_
      refine W.lcmp hx hb dX1_share_42 ?_
      refine lv_if_ge (tgt := 53) hx hb dX1_share_43 (by decide) (fun hc_7 => ?_) (fun hc_7 => ?_)
      · replace hp := hp.1 hc_7
        exact w_X1_share_53 C h0 (r_1) (y_4) (y_4) _ _ _ _ _ hp hw (lv_sub hl [3, 2, 1, 0] rfl)
      · replace hp := hp.2 hc_7
        refine lv_lload_n hx hb dX1_share_46 rfl (lv_at hl 1 rfl) ?_
        refine lv_lload_n hx hb dX1_share_47 rfl (lv_at hl 2 rfl) ?_
        refine va_mmin_long hx hb (by rw [hml]; exact hl.1.symm) hown (hts _ k_501) (hts _ k_502) (hts _ k_44) (hts _ k_503) (Nat.le_of_ble_eq_true rfl) (Nat.le_of_ble_eq_true rfl) (Nat.zero_le _) (Nat.zero_le _) dX1_share_48 ?_
        refine lv_topl (fun y_8 ey_8 => ?_)
        replace hp := hp y_8 ey_8
        refine lv_lstore (lv' := [(5, .long y_8), (3, .long y_4), (1, .long r_1), (0, .ref a0)]) hx hb dX1_share_51 hl (by decide) rfl (fun ls hl => ?_)
        exact w_X1_share_53 C h0 (r_1) (y_4) (y_8) _ _ _ _ _ hp hw (lv_sub hl [3, 2, 1, 0] rfl)
  · replace hp := hp.1 hc_5
    refine lv_lconst (v := 0) hx hb dX1_share_24 (by decide) ?_
    refine lv_lstore (lv' := [(5, .long (0 : Int64)), (3, .long y_4), (1, .long r_1), (0, .ref a0)]) hx hb dX1_share_25 hl (by decide) rfl (fun ls hl => ?_)
    refine lv_goto (tgt := 53) hx hb dX1_share_27 (by decide) ?_
    exact w_X1_share_53 C h0 (r_1) (y_4) ((0 : Int64)) _ _ _ _ _ hp hw (lv_sub hl [3, 2, 1, 0] rfl)
set_option maxHeartbeats 4000000 in
set_option maxRecDepth 100000 in
theorem w_X1_setTable_44 {p : Program} {l : Launch} {e : Env} {s : State} {m : MethodId} {args : Array Value} {below : List Frame} {meth : Method} {c : Code} (C : Cx p s m args meth c cX1_setTable (some .long) 4 RX1) {G : GX} {Sh : SH} {a0 : Nat} {a1 : Nat} {p2 : Int32} {p3 : Int32} {K : Int64 → MI → ML → Prop} (h0 : isLast G Sh a0) (h1 : isTable G Sh a1) : ∀ (ys0 : Int64) (I : MI) (L : ML) (H : Heap) (locs : List Loc) (ls : Array Slot), wp_X1_setTable_44 G Sh a0 a1 p2 p3 K ys0 I L → mW G Sh s I L H locs → lv_has ls 4 [(0, .ref a0), (1, .ref a1)] → W p l e (rmA 4 91) s m args below meth c H locs 0 0 (eL below G Sh K args s) (F0 m 44 ls [.long ys0, .ref a0]) := by
  obtain ⟨hx, hb, hr, hml, hown, hts, hlocks⟩ := id C
  intro ys0 I L H locs ls hp hw hl
  unfold wp_X1_setTable_44 at hp
  refine pf_X1_50 hx hb hts hown hw (h0.1) dX1_setTable_44 (fun L_13 H locs eL_13 hw => ?_)
  replace hp := hp L_13 eL_13
  refine lv_aload_n hx hb dX1_setTable_47 rfl (lv_at hl 0 rfl) ?_
  refine lv_aload_n hx hb dX1_setTable_48 rfl (lv_at hl 1 rfl) ?_
  refine r_cvV (As := [.ref a1]) ⟨hx, hb, hml, hown, hts⟩ (c_X1_gatherGives l G (h0) (h1) hp) (cw_X1_70 hts ⟨Nat.le_of_ble_eq_true rfl, Nat.le_of_ble_eq_true rfl⟩) hw (hw.recv (h0.1) rfl rfl) rfl rfl hl.1 (Nat.le_of_ble_eq_true rfl) ⟨Nat.zero_le _, Nat.zero_le _⟩ dX1_setTable_49 (fun I_15 L_16 H locs hp hw => ?_)
  refine lv_aload_n hx hb dX1_setTable_52 rfl (lv_at hl 0 rfl) ?_
  refine lv_aload_n hx hb dX1_setTable_53 rfl (lv_at hl 0 rfl) ?_
  refine r_cvI (As := []) ⟨hx, hb, hml, hown, hts⟩ (c_X1_greatestOrder l G (h0) hp) (cw_X1_73 hts ⟨Nat.le_of_ble_eq_true rfl, Nat.le_of_ble_eq_true rfl⟩) hw (hw.recv (h0.1) rfl rfl) rfl rfl hl.1 (Nat.le_of_ble_eq_true rfl) ⟨Nat.zero_le _, Nat.zero_le _⟩ dX1_setTable_54 (fun r_17 I_18 L_19 H locs hp hw => ?_)
  refine pf_X1_53 hx hb hts hown hw (h0.1) dX1_setTable_57 (fun I_20 H locs eI_20 hw => ?_)
  replace hp := hp I_20 eI_20
  refine lv_aload_n hx hb dX1_setTable_60 rfl (lv_at hl 0 rfl) ?_
  refine r_cvV (As := []) ⟨hx, hb, hml, hown, hts⟩ (c_X1_share l G (h0) hp) (cw_X1_77 hts ⟨Nat.le_of_ble_eq_true rfl, Nat.le_of_ble_eq_true rfl⟩) hw (hw.recv (h0.1) rfl rfl) rfl rfl hl.1 (Nat.le_of_ble_eq_true rfl) ⟨Nat.zero_le _, Nat.zero_le _⟩ dX1_setTable_61 (fun I_22 L_23 H locs hp hw => ?_)
  refine lv_aload_n hx hb dX1_setTable_64 rfl (lv_at hl 0 rfl) ?_
  refine lv_dup hx hb dX1_setTable_65 rfl ?_
  refine gf_X1_39 hx hb hts hown hw (h0.1) dX1_setTable_66 ?_
  refine lv_iconst (v := 1) hx hb dX1_setTable_69 (by decide) ?_
  refine lv_iadd hx hb dX1_setTable_70 ?_
  refine pf_X1_39 hx hb hts hown hw (h0.1) dX1_setTable_71 (fun I_24 H locs eI_24 hw => ?_)
  replace hp := hp I_24 eI_24
  refine lv_aload_n hx hb dX1_setTable_74 rfl (lv_at hl 0 rfl) ?_
  refine r_cvL (As := []) ⟨hx, hb, hml, hown, hts⟩ (c_X1_setWidth l G (h0) hp) (cw_X1_80 hts ⟨Nat.le_of_ble_eq_true rfl, Nat.le_of_ble_eq_true rfl⟩) hw (hw.recv (h0.1) rfl rfl) rfl rfl hl.1 (Nat.le_of_ble_eq_true rfl) ⟨Nat.zero_le _, Nat.zero_le _⟩ dX1_setTable_75 (fun r_25 I_26 L_27 H locs hp hw => ?_)
  exact r_lret hx hb hr hlocks hw hp dX1_setTable_78
set_option maxHeartbeats 4000000 in
set_option maxRecDepth 100000 in
theorem c_X1_setTable (l : Launch) (G : GX) {Sh : SH} {a0 : Nat} {a1 : Nat} {p2 : Int32} {p3 : Int32} (h0 : isLast G Sh a0) (h1 : isTable G Sh a1) {I : MI} {L : ML} {K : Int64 → MI → ML → Prop} (hp : wp_X1_setTable G Sh a0 a1 p2 p3 I L K) : CtL l yX1_setTable (wM yX1_setTable cX1_setTable 4 (some .long)) (rmA 4 91) G Sh [.ref a0, .ref a1, .int p2, .int p3] I L K := by
  refine ofA (own := RX1) (by decide) rfl (Nat.le_of_ble_eq_true rfl) ?_
  intro p e s m args below meth c ls C hw hl
  obtain ⟨hx, hb, hr, hml, hown, hts, hlocks⟩ := id C
  replace hl : lv_has ls 4 [(0, .ref a0), (1, .ref a1), (2, .int p2), (3, .int p3)] := hl
  unfold wp_X1_setTable at hp
  refine lv_aload_n hx hb dX1_setTable_0 rfl (lv_at hl 0 rfl) ?_
  refine lv_aload_n hx hb dX1_setTable_1 rfl (lv_at hl 1 rfl) ?_
  refine r_cvV (As := [.ref a1]) ⟨hx, hb, hml, hown, hts⟩ (c_X1_gatherNeeds l G (h0) (h1) hp) (cw_X1_59 hts ⟨Nat.le_of_ble_eq_true rfl, Nat.le_of_ble_eq_true rfl⟩) hw (hw.recv (h0.1) rfl rfl) rfl rfl hl.1 (Nat.le_of_ble_eq_true rfl) ⟨Nat.zero_le _, Nat.zero_le _⟩ dX1_setTable_2 (fun I_2 L_3 H locs hp hw => ?_)
  refine lv_aload_n hx hb dX1_setTable_5 rfl (lv_at hl 0 rfl) ?_
  refine lv_aload_n hx hb dX1_setTable_6 rfl (lv_at hl 1 rfl) ?_
  refine r_cvV (As := [.ref a1]) ⟨hx, hb, hml, hown, hts⟩ (c_X1_findWidths l G (h0) (h1) hp) (cw_X1_63 hts ⟨Nat.le_of_ble_eq_true rfl, Nat.le_of_ble_eq_true rfl⟩) hw (hw.recv (h0.1) rfl rfl) rfl rfl hl.1 (Nat.le_of_ble_eq_true rfl) ⟨Nat.zero_le _, Nat.zero_le _⟩ dX1_setTable_7 (fun I_5 L_6 H locs hp hw => ?_)
  refine lv_aload_n hx hb dX1_setTable_10 rfl (lv_at hl 0 rfl) ?_
  refine lv_aload_n hx hb dX1_setTable_11 rfl (lv_at hl 0 rfl) ?_
  refine r_cvL (As := []) ⟨hx, hb, hml, hown, hts⟩ (c_X1_naturalWidth l G (h0) hp) (cw_X1_66 hts ⟨Nat.le_of_ble_eq_true rfl, Nat.le_of_ble_eq_true rfl⟩) hw (hw.recv (h0.1) rfl rfl) rfl rfl hl.1 (Nat.le_of_ble_eq_true rfl) ⟨Nat.zero_le _, Nat.zero_le _⟩ dX1_setTable_12 (fun r_7 I_8 L_9 H locs hp hw => ?_)
  refine pf_X1_46 hx hb hts hown hw (h0.1) dX1_setTable_15 (fun L_10 H locs eL_10 hw => ?_)
  replace hp := hp L_10 eL_10
  refine lv_aload_n hx hb dX1_setTable_18 rfl (lv_at hl 0 rfl) ?_
  refine lv_iload_n hx hb dX1_setTable_19 rfl (lv_at hl 2 rfl) ?_
  refine lv_if_ne (tgt := 27) hx hb dX1_setTable_20 (by decide) (fun hc_11 => ?_) (fun hc_11 => ?_)
  · replace hp := hp.2 hc_11
    refine lv_iload_n hx hb dX1_setTable_27 rfl (lv_at hl 2 rfl) ?_
    refine lv_iconst (v := 1) hx hb dX1_setTable_28 (by decide) ?_
    refine lv_icmp_ne (tgt := 42) hx hb dX1_setTable_29 (by decide) (fun hc_12 => ?_) (fun hc_12 => ?_)
    · replace hp := hp.2 hc_12
      refine lv_iload_n hx hb dX1_setTable_42 rfl (lv_at hl 3 rfl) ?_
      refine lv_i2l hx hb dX1_setTable_43 rfl ?_
      exact w_X1_setTable_44 C h0 h1 ((Int32.toInt64 p3)) _ _ _ _ _ hp hw (lv_sub hl [0, 1] rfl)
    · replace hp := hp.1 hc_12
      refine lv_iload_n hx hb dX1_setTable_32 rfl (lv_at hl 3 rfl) ?_
      refine lv_i2l hx hb dX1_setTable_33 rfl ?_
      refine lv_aload_n hx hb dX1_setTable_34 rfl (lv_at hl 0 rfl) ?_
      refine gf_X1_46 hx hb hts hown hw (h0.1) dX1_setTable_35 ?_
      refine lv_lsub hx hb dX1_setTable_38 ?_
      refine lv_goto (tgt := 44) hx hb dX1_setTable_39 (by decide) ?_
      exact w_X1_setTable_44 C h0 h1 (((Int32.toInt64 p3) - (L_10 a0 9))) _ _ _ _ _ hp hw (lv_sub hl [0, 1] rfl)
  · replace hp := hp.1 hc_11
    refine lv_lconst (v := 0) hx hb dX1_setTable_23 (by decide) ?_
    refine lv_goto (tgt := 44) hx hb dX1_setTable_24 (by decide) ?_
    exact w_X1_setTable_44 C h0 h1 ((0 : Int64)) _ _ _ _ _ hp hw (lv_sub hl [0, 1] rfl)
set_option maxHeartbeats 4000000 in
set_option maxRecDepth 100000 in
theorem c_X1_tell (l : Launch) (G : GX) {Sh : SH} {a0 : Nat} {p1 : Int32} (h0 : isLast G Sh a0) {I : MI} {L : ML} {K : Int64 → MI → ML → Prop} (hp : wp_X1_tell G Sh a0 p1 I L K) : CtL l yX1_tell (wM yX1_tell cX1_tell 2 (some .long)) (rmA 0 0) G Sh [.ref a0, .int p1] I L K := by
  refine ofA (own := RX1) (by decide) rfl (Nat.le_of_ble_eq_true rfl) ?_
  intro p e s m args below meth c ls C hw hl
  obtain ⟨hx, hb, hr, hml, hown, hts, hlocks⟩ := id C
  replace hl : lv_has ls 2 [(0, .ref a0), (1, .int p1)] := hl
  unfold wp_X1_tell at hp
  refine lv_iload_n hx hb dX1_tell_0 rfl (lv_at hl 1 rfl) ?_
  by_cases hc_1 : p1 = (6 : Int32)
  · replace hp := hp.1 hc_1
    refine lv_tableIn (off := 35) (tgt := 36) hx hb dX1_tell_1 (by rw [hc_1]; decide) (by rw [hc_1]; decide) (by rw [hc_1]; rfl) (by decide) ?_
    refine lv_aload_n hx hb dX1_tell_36 rfl (lv_at hl 0 rfl) ?_
    refine gf_X1_43 hx hb hts hown hw (h0.1) dX1_tell_37 ?_
    refine lv_i2l hx hb dX1_tell_40 rfl ?_
    exact r_lret hx hb hr hlocks hw hp dX1_tell_41
  replace hp := hp.2 hc_1
  by_cases hc_2 : p1 = (7 : Int32)
  · replace hp := hp.1 hc_2
    refine lv_tableIn (off := 41) (tgt := 42) hx hb dX1_tell_1 (by rw [hc_2]; decide) (by rw [hc_2]; decide) (by rw [hc_2]; rfl) (by decide) ?_
    refine lv_aload_n hx hb dX1_tell_42 rfl (lv_at hl 0 rfl) ?_
    refine gf_X1_46 hx hb hts hown hw (h0.1) dX1_tell_43 ?_
    exact r_lret hx hb hr hlocks hw hp dX1_tell_46
  replace hp := hp.2 hc_2
  by_cases hc_3 : p1 = (8 : Int32)
  · replace hp := hp.1 hc_3
    refine lv_tableIn (off := 46) (tgt := 47) hx hb dX1_tell_1 (by rw [hc_3]; decide) (by rw [hc_3]; decide) (by rw [hc_3]; rfl) (by decide) ?_
    refine lv_aload_n hx hb dX1_tell_47 rfl (lv_at hl 0 rfl) ?_
    refine gf_X1_50 hx hb hts hown hw (h0.1) dX1_tell_48 ?_
    exact r_lret hx hb hr hlocks hw hp dX1_tell_51
  replace hp := hp.2 hc_3
  by_cases hc_4 : p1 = (9 : Int32)
  · replace hp := hp.1 hc_4
    refine lv_tableIn (off := 51) (tgt := 52) hx hb dX1_tell_1 (by rw [hc_4]; decide) (by rw [hc_4]; decide) (by rw [hc_4]; rfl) (by decide) ?_
    refine lv_aload_n hx hb dX1_tell_52 rfl (lv_at hl 0 rfl) ?_
    refine gf_X1_39 hx hb hts hown hw (h0.1) dX1_tell_53 ?_
    refine lv_i2l hx hb dX1_tell_56 rfl ?_
    exact r_lret hx hb hr hlocks hw hp dX1_tell_57
  replace hp := hp.2 hc_4
  by_cases hc_5 : p1 = (10 : Int32)
  · replace hp := hp.1 hc_5
    refine lv_tableIn (off := 57) (tgt := 58) hx hb dX1_tell_1 (by rw [hc_5]; decide) (by rw [hc_5]; decide) (by rw [hc_5]; rfl) (by decide) ?_
    refine lv_aload_n hx hb dX1_tell_58 rfl (lv_at hl 0 rfl) ?_
    refine gf_X1_53 hx hb hts hown hw (h0.1) dX1_tell_59 ?_
    refine lv_i2l hx hb dX1_tell_62 rfl ?_
    exact r_lret hx hb hr hlocks hw hp dX1_tell_63
  replace hp := hp.2 hc_5
  refine lv_tableOut (tgt := 64) hx hb dX1_tell_1 (by have q0 := lv_neT (a := 6) hc_1 rfl; have q1 := lv_neT (a := 7) hc_2 rfl; have q2 := lv_neT (a := 8) hc_3 rfl; have q3 := lv_neT (a := 9) hc_4 rfl; have q4 := lv_neT (a := 10) hc_5 rfl; omega) (by decide) ?_
  refine lv_aload_n hx hb dX1_tell_64 rfl (lv_at hl 0 rfl) ?_
  refine gf_X1_56 hx hb hts hown hw (h0.1) dX1_tell_65 ?_
  exact r_lret hx hb hr hlocks hw hp dX1_tell_68
set_option maxHeartbeats 4000000 in
set_option maxRecDepth 100000 in
theorem c_X3_byteOf (l : Launch) (G : GX) {Sh : SH} {p0 : Int32} {p1 : Int32}  {I : MI} {L : ML} {K : Int32 → MI → ML → Prop} (hp : wp_X3_byteOf G Sh p0 p1 I L K) : CtI l yX3_byteOf (wM yX3_byteOf cX3_byteOf 2 (some .int)) (rmA 0 0) G Sh [.int p0, .int p1] I L K := by
  refine ofA (own := RX3) (by decide) rfl (Nat.le_of_ble_eq_true rfl) ?_
  intro p e s m args below meth c ls C hw hl
  obtain ⟨hx, hb, hr, hml, hown, hts, hlocks⟩ := id C
  replace hl : lv_has ls 2 [(0, .int p0), (1, .int p1)] := hl
  unfold wp_X3_byteOf at hp
  refine lv_iload_n hx hb dX3_byteOf_0 rfl (lv_at hl 0 rfl) ?_
  refine lv_iload_n hx hb dX3_byteOf_1 rfl (lv_at hl 1 rfl) ?_
  refine lv_iushr hx hb dX3_byteOf_2 rfl ?_
  refine lv_sipush (v := 255) hx hb dX3_byteOf_3 (by decide) ?_
  refine lv_iand hx hb dX3_byteOf_6 ?_
  exact r_iret hx hb hr hlocks hw hp dX3_byteOf_7
set_option maxHeartbeats 4000000 in
set_option maxRecDepth 100000 in
theorem w_X3_hasOnlySigns_3 {p : Program} {l : Launch} {e : Env} {s : State} {m : MethodId} {args : Array Value} {below : List Frame} {meth : Method} {c : Code} (C : Cx p s m args meth c cX3_hasOnlySigns (some .boolean) 3 RX3) {G : GX} {Sh : SH} {p0 : Int32} {K : Int32 → MI → ML → Prop}  : ∀ (n : Nat) (xl1 : Int32) (I : MI) (L : ML) (H : Heap) (locs : List Loc) (ls : Array Slot), wp_X3_hasOnlySigns_3 G Sh p0 K n xl1 I L → mW G Sh s I L H locs → lv_has ls 3 [(0, .int p0), (1, .int xl1)] → W p l e (rmA 1 22) s m args below meth c H locs 0 0 (eI below G Sh K args s) (F0 m 3 ls []) := by
  obtain ⟨hx, hb, hr, hml, hown, hts, hlocks⟩ := id C
  intro n
  induction n with
  | zero => intro xl1 I L H locs ls hp hw hl; exact hp.elim
  | succ n hB3 =>
    intro xl1 I L H locs ls hp hw hl
    replace hp : wb_X3_hasOnlySigns_3 G Sh p0 K (wp_X3_hasOnlySigns_3 G Sh p0 K n) xl1 I L := hp
    unfold wb_X3_hasOnlySigns_3 at hp
    refine lv_iload_n hx hb dX3_hasOnlySigns_3 rfl (lv_at hl 1 rfl) ?_
    refine lv_if_lt (tgt := 48) hx hb dX3_hasOnlySigns_4 (by decide) (fun hc_1 => ?_) (fun hc_1 => ?_)
    · replace hp := hp.1 hc_1
      refine lv_iconst (v := 1) hx hb dX3_hasOnlySigns_48 (by decide) ?_
      exact r_zret hx hb hr hlocks hw ⟨rfl, hp⟩ dX3_hasOnlySigns_49
    · replace hp := hp.2 hc_1
      refine lv_iload_n hx hb dX3_hasOnlySigns_7 rfl (lv_at hl 0 rfl) ?_
      refine lv_iload_n hx hb dX3_hasOnlySigns_8 rfl (lv_at hl 1 rfl) ?_
      refine r_csI (As := [.int p0, .int xl1]) ⟨hx, hb, hml, hown, hts⟩ (c_X3_byteOf l G  hp) (cw_X3_51 hts ⟨Nat.le_of_ble_eq_true rfl, Nat.le_of_ble_eq_true rfl⟩) hw rfl rfl hl.1 (Nat.le_of_ble_eq_true rfl) ⟨Nat.zero_le _, Nat.zero_le _⟩ dX3_hasOnlySigns_9 (fun r_2 I_3 L_4 H locs hp hw => ?_)
      refine lv_istore_n (lv' := [(2, .int r_2), (0, .int p0), (1, .int xl1)]) hx hb dX3_hasOnlySigns_12 rfl hl (by decide) rfl (fun ls hl => ?_)
      refine lv_iload_n hx hb dX3_hasOnlySigns_13 rfl (lv_at hl 0 rfl) ?_
      refine lv_if_eq (tgt := 42) hx hb dX3_hasOnlySigns_14 (by decide) (fun hc_5 => ?_) (fun hc_5 => ?_)
      · replace hp := hp.1 hc_5
        obtain ⟨x_6, ex_6⟩ : ∃ z : Int32, z = xl1 + (-8 : Int32) := ⟨_, rfl⟩
        replace hp := hp x_6 ex_6
        refine lv_iinc (v := x_6) (lv' := [(1, .int x_6), (2, .int r_2), (0, .int p0)]) hx hb dX3_hasOnlySigns_42 hl (k := 2) rfl (by rw [ex_6]; rfl) (by decide) rfl (fun ls hl => ?_)
        refine lv_goto (tgt := 3) hx hb dX3_hasOnlySigns_45 (by decide) ?_
        exact hB3 (x_6) _ _ _ _ _ hp hw (lv_sub hl [2, 0] rfl)
      · replace hp := hp.2 hc_5
        refine lv_iload_n hx hb dX3_hasOnlySigns_17 rfl (lv_at hl 0 rfl) ?_
        refine lv_bipush (v := 35) hx hb dX3_hasOnlySigns_18 (by decide) ?_
        refine lv_icmp_eq (tgt := 42) hx hb dX3_hasOnlySigns_20 (by decide) (fun hc_7 => ?_) (fun hc_7 => ?_)
        · replace hp := hp.1 hc_7
          obtain ⟨x_8, ex_8⟩ : ∃ z : Int32, z = xl1 + (-8 : Int32) := ⟨_, rfl⟩
          replace hp := hp x_8 ex_8
          refine lv_iinc (v := x_8) (lv' := [(1, .int x_8), (2, .int r_2), (0, .int p0)]) hx hb dX3_hasOnlySigns_42 hl (k := 2) rfl (by rw [ex_8]; rfl) (by decide) rfl (fun ls hl => ?_)
          refine lv_goto (tgt := 3) hx hb dX3_hasOnlySigns_45 (by decide) ?_
          exact hB3 (x_8) _ _ _ _ _ hp hw (lv_sub hl [2, 0] rfl)
        · replace hp := hp.2 hc_7
          refine lv_iload_n hx hb dX3_hasOnlySigns_23 rfl (lv_at hl 0 rfl) ?_
          refine lv_bipush (v := 38) hx hb dX3_hasOnlySigns_24 (by decide) ?_
          refine lv_icmp_eq (tgt := 42) hx hb dX3_hasOnlySigns_26 (by decide) (fun hc_9 => ?_) (fun hc_9 => ?_)
          · replace hp := hp.1 hc_9
            obtain ⟨x_10, ex_10⟩ : ∃ z : Int32, z = xl1 + (-8 : Int32) := ⟨_, rfl⟩
            replace hp := hp x_10 ex_10
            refine lv_iinc (v := x_10) (lv' := [(1, .int x_10), (2, .int r_2), (0, .int p0)]) hx hb dX3_hasOnlySigns_42 hl (k := 2) rfl (by rw [ex_10]; rfl) (by decide) rfl (fun ls hl => ?_)
            refine lv_goto (tgt := 3) hx hb dX3_hasOnlySigns_45 (by decide) ?_
            exact hB3 (x_10) _ _ _ _ _ hp hw (lv_sub hl [2, 0] rfl)
          · replace hp := hp.2 hc_9
            refine lv_iload_n hx hb dX3_hasOnlySigns_29 rfl (lv_at hl 0 rfl) ?_
            refine lv_bipush (v := 97) hx hb dX3_hasOnlySigns_30 (by decide) ?_
            refine lv_bipush (v := 122) hx hb dX3_hasOnlySigns_32 (by decide) ?_
            refine r_csNI (As := [.int r_2, .int (97 : Int32), .int (122 : Int32)]) ⟨hx, hb, hml, hown, hts⟩ (c_X6_isIn l G  hp) (cw_X3_55 hts hw ⟨Nat.le_of_ble_eq_true rfl, Nat.le_of_ble_eq_true rfl⟩) hw rfl rfl hl.1 (Nat.le_of_ble_eq_true rfl) ⟨Nat.zero_le _, Nat.zero_le _⟩ dX3_hasOnlySigns_34 (fun r_11 I_12 L_13 H locs hp hw => ?_)
            refine lv_if_ne (tgt := 42) hx hb dX3_hasOnlySigns_37 (by decide) (fun hc_14 => ?_) (fun hc_14 => ?_)
            · replace hp := hp.2 hc_14
              obtain ⟨x_15, ex_15⟩ : ∃ z : Int32, z = xl1 + (-8 : Int32) := ⟨_, rfl⟩
              replace hp := hp x_15 ex_15
              refine lv_iinc (v := x_15) (lv' := [(1, .int x_15), (2, .int r_2), (0, .int p0)]) hx hb dX3_hasOnlySigns_42 hl (k := 2) rfl (by rw [ex_15]; rfl) (by decide) rfl (fun ls hl => ?_)
              refine lv_goto (tgt := 3) hx hb dX3_hasOnlySigns_45 (by decide) ?_
              exact hB3 (x_15) _ _ _ _ _ hp hw (lv_sub hl [2, 0] rfl)
            · replace hp := hp.1 hc_14
              refine lv_iconst (v := 0) hx hb dX3_hasOnlySigns_40 (by decide) ?_
              exact r_zret hx hb hr hlocks hw ⟨rfl, hp⟩ dX3_hasOnlySigns_41
set_option maxHeartbeats 4000000 in
set_option maxRecDepth 100000 in
theorem c_X3_hasOnlySigns (l : Launch) (G : GX) {Sh : SH} {p0 : Int32}  {I : MI} {L : ML} {K : Int32 → MI → ML → Prop} (hp : wp_X3_hasOnlySigns G Sh p0 I L K) : CtI l yX3_hasOnlySigns (wM yX3_hasOnlySigns cX3_hasOnlySigns 3 (some .boolean)) (rmA 1 22) G Sh [.int p0] I L K := by
  refine ofA (own := RX3) (by decide) rfl (Nat.le_of_ble_eq_true rfl) ?_
  intro p e s m args below meth c ls C hw hl
  obtain ⟨hx, hb, hr, hml, hown, hts, hlocks⟩ := id C
  replace hl : lv_has ls 3 [(0, .int p0)] := hl
  unfold wp_X3_hasOnlySigns at hp
  refine lv_bipush (v := 24) hx hb dX3_hasOnlySigns_0 (by decide) ?_
  refine lv_istore_n (lv' := [(1, .int (24 : Int32)), (0, .int p0)]) hx hb dX3_hasOnlySigns_2 rfl hl (by decide) rfl (fun ls hl => ?_)
  obtain ⟨n, hp⟩ := hp
  exact w_X3_hasOnlySigns_3 C  n ((24 : Int32)) _ _ _ _ _ hp hw (lv_sub hl [1, 0] rfl)
set_option maxHeartbeats 4000000 in
set_option maxRecDepth 100000 in
theorem w_X3_signsOf_5 {p : Program} {l : Launch} {e : Env} {s : State} {m : MethodId} {args : Array Value} {below : List Frame} {meth : Method} {c : Code} (C : Cx p s m args meth c cX3_signsOf (some .int) 3 RX3) {G : GX} {Sh : SH} {p0 : Int32} {K : Int32 → MI → ML → Prop}  : ∀ (n : Nat) (xl1 : Int32) (xl2 : Int32) (I : MI) (L : ML) (H : Heap) (locs : List Loc) (ls : Array Slot), wp_X3_signsOf_5 G Sh p0 K n xl1 xl2 I L → mW G Sh s I L H locs → lv_has ls 3 [(0, .int p0), (1, .int xl1), (2, .int xl2)] → W p l e (rmA 1 21) s m args below meth c H locs 0 0 (eI below G Sh K args s) (F0 m 5 ls []) := by
  obtain ⟨hx, hb, hr, hml, hown, hts, hlocks⟩ := id C
  intro n
  induction n with
  | zero => intro xl1 xl2 I L H locs ls hp hw hl; exact hp.elim
  | succ n hB5 =>
    intro xl1 xl2 I L H locs ls hp hw hl
    replace hp : wb_X3_signsOf_5 G Sh p0 K (wp_X3_signsOf_5 G Sh p0 K n) xl1 xl2 I L := hp
    unfold wb_X3_signsOf_5 at hp
    refine lv_iload_n hx hb dX3_signsOf_5 rfl (lv_at hl 2 rfl) ?_
    refine lv_if_lt (tgt := 26) hx hb dX3_signsOf_6 (by decide) (fun hc_1 => ?_) (fun hc_1 => ?_)
    · replace hp := hp.1 hc_1
      refine lv_iload_n hx hb dX3_signsOf_26 rfl (lv_at hl 1 rfl) ?_
      exact r_iret hx hb hr hlocks hw hp dX3_signsOf_27
    · replace hp := hp.2 hc_1
      refine lv_iload_n hx hb dX3_signsOf_9 rfl (lv_at hl 0 rfl) ?_
      refine lv_iload_n hx hb dX3_signsOf_10 rfl (lv_at hl 2 rfl) ?_
      refine r_csI (As := [.int p0, .int xl2]) ⟨hx, hb, hml, hown, hts⟩ (c_X3_byteOf l G  hp) (cw_X3_51 hts ⟨Nat.le_of_ble_eq_true rfl, Nat.le_of_ble_eq_true rfl⟩) hw rfl rfl hl.1 (Nat.le_of_ble_eq_true rfl) ⟨Nat.zero_le _, Nat.zero_le _⟩ dX3_signsOf_11 (fun r_2 I_3 L_4 H locs hp hw => ?_)
      refine lv_if_eq (tgt := 20) hx hb dX3_signsOf_14 (by decide) (fun hc_5 => ?_) (fun hc_5 => ?_)
      · replace hp := hp.1 hc_5
        obtain ⟨x_6, ex_6⟩ : ∃ z : Int32, z = xl2 + (-8 : Int32) := ⟨_, rfl⟩
        replace hp := hp x_6 ex_6
        refine lv_iinc (v := x_6) (lv' := [(2, .int x_6), (0, .int p0), (1, .int xl1)]) hx hb dX3_signsOf_20 hl (k := 2) rfl (by rw [ex_6]; rfl) (by decide) rfl (fun ls hl => ?_)
        refine lv_goto (tgt := 5) hx hb dX3_signsOf_23 (by decide) ?_
        exact hB5 (xl1) (x_6) _ _ _ _ _ hp hw (lv_sub hl [1, 2, 0] rfl)
      · replace hp := hp.2 hc_5
        obtain ⟨x_7, ex_7⟩ : ∃ z : Int32, z = xl1 + (1 : Int32) := ⟨_, rfl⟩
        replace hp := hp x_7 ex_7
        refine lv_iinc (v := x_7) (lv' := [(1, .int x_7), (0, .int p0), (2, .int xl2)]) hx hb dX3_signsOf_17 hl (k := 1) rfl (by rw [ex_7]; rfl) (by decide) rfl (fun ls hl => ?_)
        obtain ⟨x_8, ex_8⟩ : ∃ z : Int32, z = xl2 + (-8 : Int32) := ⟨_, rfl⟩
        replace hp := hp x_8 ex_8
        refine lv_iinc (v := x_8) (lv' := [(2, .int x_8), (1, .int x_7), (0, .int p0)]) hx hb dX3_signsOf_20 hl (k := 2) rfl (by rw [ex_8]; rfl) (by decide) rfl (fun ls hl => ?_)
        refine lv_goto (tgt := 5) hx hb dX3_signsOf_23 (by decide) ?_
        exact hB5 (x_7) (x_8) _ _ _ _ _ hp hw (lv_sub hl [2, 1, 0] rfl)
set_option maxHeartbeats 4000000 in
set_option maxRecDepth 100000 in
theorem c_X3_signsOf (l : Launch) (G : GX) {Sh : SH} {p0 : Int32}  {I : MI} {L : ML} {K : Int32 → MI → ML → Prop} (hp : wp_X3_signsOf G Sh p0 I L K) : CtI l yX3_signsOf (wM yX3_signsOf cX3_signsOf 3 (some .int)) (rmA 1 21) G Sh [.int p0] I L K := by
  refine ofA (own := RX3) (by decide) rfl (Nat.le_of_ble_eq_true rfl) ?_
  intro p e s m args below meth c ls C hw hl
  obtain ⟨hx, hb, hr, hml, hown, hts, hlocks⟩ := id C
  replace hl : lv_has ls 3 [(0, .int p0)] := hl
  unfold wp_X3_signsOf at hp
  refine lv_iconst (v := 0) hx hb dX3_signsOf_0 (by decide) ?_
  refine lv_istore_n (lv' := [(1, .int (0 : Int32)), (0, .int p0)]) hx hb dX3_signsOf_1 rfl hl (by decide) rfl (fun ls hl => ?_)
  refine lv_bipush (v := 24) hx hb dX3_signsOf_2 (by decide) ?_
  refine lv_istore_n (lv' := [(2, .int (24 : Int32)), (1, .int (0 : Int32)), (0, .int p0)]) hx hb dX3_signsOf_4 rfl hl (by decide) rfl (fun ls hl => ?_)
  obtain ⟨n, hp⟩ := hp
  exact w_X3_signsOf_5 C  n ((0 : Int32)) ((24 : Int32)) _ _ _ _ _ hp hw (lv_sub hl [2, 1, 0] rfl)
set_option maxHeartbeats 4000000 in
set_option maxRecDepth 100000 in
theorem w_X3_putSigns_3 {p : Program} {l : Launch} {e : Env} {s : State} {m : MethodId} {args : Array Value} {below : List Frame} {meth : Method} {c : Code} (C : Cx p s m args meth c cX3_putSigns none 4 RX3) {G : GX} {Sh : SH} {a0 : Nat} {p1 : Int32} {K : MI → ML → Prop} (h0 : isPre G Sh a0) : ∀ (n : Nat) (xl2 : Int32) (I : MI) (L : ML) (H : Heap) (locs : List Loc) (ls : Array Slot), wp_X3_putSigns_3 G Sh a0 p1 K n xl2 I L → mW G Sh s I L H locs → lv_has ls 4 [(0, .ref a0), (1, .int p1), (2, .int xl2)] → W p l e (rmA 1 21) s m args below meth c H locs 0 0 (eV below G Sh K args s) (F0 m 3 ls []) := by
  obtain ⟨hx, hb, hr, hml, hown, hts, hlocks⟩ := id C
  intro n
  induction n with
  | zero => intro xl2 I L H locs ls hp hw hl; exact hp.elim
  | succ n hB3 =>
    intro xl2 I L H locs ls hp hw hl
    replace hp : wb_X3_putSigns_3 G Sh a0 p1 K (wp_X3_putSigns_3 G Sh a0 p1 K n) xl2 I L := hp
    unfold wb_X3_putSigns_3 at hp
    refine lv_iload_n hx hb dX3_putSigns_3 rfl (lv_at hl 2 rfl) ?_
    refine lv_if_lt (tgt := 53) hx hb dX3_putSigns_4 (by decide) (fun hc_1 => ?_) (fun hc_1 => ?_)
    · replace hp := hp.1 hc_1
      exact r_vret hx hb hr hlocks hw hp dX3_putSigns_53
    · replace hp := hp.2 hc_1
      refine lv_iload_n hx hb dX3_putSigns_7 rfl (lv_at hl 1 rfl) ?_
      refine lv_iload_n hx hb dX3_putSigns_8 rfl (lv_at hl 2 rfl) ?_
      refine r_csI (As := [.int p1, .int xl2]) ⟨hx, hb, hml, hown, hts⟩ (c_X3_byteOf l G  hp) (cw_X3_51 hts ⟨Nat.le_of_ble_eq_true rfl, Nat.le_of_ble_eq_true rfl⟩) hw rfl rfl hl.1 (Nat.le_of_ble_eq_true rfl) ⟨Nat.zero_le _, Nat.zero_le _⟩ dX3_putSigns_9 (fun r_2 I_3 L_4 H locs hp hw => ?_)
      refine lv_istore_n (lv' := [(3, .int r_2), (0, .ref a0), (1, .int p1), (2, .int xl2)]) hx hb dX3_putSigns_12 rfl hl (by decide) rfl (fun ls hl => ?_)
      refine lv_iload_n hx hb dX3_putSigns_13 rfl (lv_at hl 0 rfl) ?_
      refine lv_if_eq (tgt := 47) hx hb dX3_putSigns_14 (by decide) (fun hc_5 => ?_) (fun hc_5 => ?_)
      · replace hp := hp.1 hc_5
        obtain ⟨x_6, ex_6⟩ : ∃ z : Int32, z = xl2 + (-8 : Int32) := ⟨_, rfl⟩
        replace hp := hp x_6 ex_6
        refine lv_iinc (v := x_6) (lv' := [(2, .int x_6), (3, .int r_2), (0, .ref a0), (1, .int p1)]) hx hb dX3_putSigns_47 hl (k := 3) rfl (by rw [ex_6]; rfl) (by decide) rfl (fun ls hl => ?_)
        refine lv_goto (tgt := 3) hx hb dX3_putSigns_50 (by decide) ?_
        exact hB3 (x_6) _ _ _ _ _ hp hw (lv_sub hl [2, 3, 0] rfl)
      · replace hp := hp.2 hc_5
        refine lv_aload_n hx hb dX3_putSigns_17 rfl (lv_at hl 1 rfl) ?_
        refine gf_X3_22 hx hb hts hown hw (h0.1) dX3_putSigns_18 ?_
        refine lv_bipush (v := 40) hx hb dX3_putSigns_21 (by decide) ?_
        refine lv_icmp_ge (tgt := 47) hx hb dX3_putSigns_23 (by decide) (fun hc_7 => ?_) (fun hc_7 => ?_)
        · replace hp := hp.1 hc_7
          obtain ⟨x_8, ex_8⟩ : ∃ z : Int32, z = xl2 + (-8 : Int32) := ⟨_, rfl⟩
          replace hp := hp x_8 ex_8
          refine lv_iinc (v := x_8) (lv' := [(2, .int x_8), (3, .int r_2), (0, .ref a0), (1, .int p1)]) hx hb dX3_putSigns_47 hl (k := 3) rfl (by rw [ex_8]; rfl) (by decide) rfl (fun ls hl => ?_)
          refine lv_goto (tgt := 3) hx hb dX3_putSigns_50 (by decide) ?_
          exact hB3 (x_8) _ _ _ _ _ hp hw (lv_sub hl [2, 3, 0] rfl)
        · replace hp := hp.2 hc_7
          refine lv_aload_n hx hb dX3_putSigns_26 rfl (lv_at hl 1 rfl) ?_
          refine gf_X3_9 hx hb hts hown hw (h0.1) dX3_putSigns_27 ?_
          refine lv_aload_n hx hb dX3_putSigns_30 rfl (lv_at hl 1 rfl) ?_
          refine gf_X3_22 hx hb hts hown hw (h0.1) dX3_putSigns_31 ?_
          refine lv_iload_n hx hb dX3_putSigns_34 rfl (lv_at hl 0 rfl) ?_
          refine lv_i2c hx hb dX3_putSigns_35 rfl ?_
          obtain ⟨hi_9, hp⟩ := hp
          refine r_cast hx hb hw (h0.2.1) hi_9 rfl dX3_putSigns_36 (fun I_10 H locs eI_10 hw => ?_)
          replace hp := hp I_10 eI_10
          refine lv_aload_n hx hb dX3_putSigns_37 rfl (lv_at hl 1 rfl) ?_
          refine lv_dup hx hb dX3_putSigns_38 rfl ?_
          refine gf_X3_22 hx hb hts hown hw (h0.1) dX3_putSigns_39 ?_
          refine lv_iconst (v := 1) hx hb dX3_putSigns_42 (by decide) ?_
          refine lv_iadd hx hb dX3_putSigns_43 ?_
          refine pf_X3_22 hx hb hts hown hw (h0.1) dX3_putSigns_44 (fun I_11 H locs eI_11 hw => ?_)
          replace hp := hp I_11 eI_11
          obtain ⟨x_12, ex_12⟩ : ∃ z : Int32, z = xl2 + (-8 : Int32) := ⟨_, rfl⟩
          replace hp := hp x_12 ex_12
          refine lv_iinc (v := x_12) (lv' := [(2, .int x_12), (3, .int r_2), (0, .ref a0), (1, .int p1)]) hx hb dX3_putSigns_47 hl (k := 3) rfl (by rw [ex_12]; rfl) (by decide) rfl (fun ls hl => ?_)
          refine lv_goto (tgt := 3) hx hb dX3_putSigns_50 (by decide) ?_
          exact hB3 (x_12) _ _ _ _ _ hp hw (lv_sub hl [2, 3, 0] rfl)
set_option maxHeartbeats 4000000 in
set_option maxRecDepth 100000 in
theorem c_X3_putSigns (l : Launch) (G : GX) {Sh : SH} {a0 : Nat} {p1 : Int32} (h0 : isPre G Sh a0) {I : MI} {L : ML} {K : MI → ML → Prop} (hp : wp_X3_putSigns G Sh a0 p1 I L K) : CtV l yX3_putSigns (wM yX3_putSigns cX3_putSigns 4 none) (rmA 1 21) G Sh [.ref a0, .int p1] I L K := by
  refine ofA (own := RX3) (by decide) rfl (Nat.le_of_ble_eq_true rfl) ?_
  intro p e s m args below meth c ls C hw hl
  obtain ⟨hx, hb, hr, hml, hown, hts, hlocks⟩ := id C
  replace hl : lv_has ls 4 [(0, .ref a0), (1, .int p1)] := hl
  unfold wp_X3_putSigns at hp
  refine lv_bipush (v := 24) hx hb dX3_putSigns_0 (by decide) ?_
  refine lv_istore_n (lv' := [(2, .int (24 : Int32)), (0, .ref a0), (1, .int p1)]) hx hb dX3_putSigns_2 rfl hl (by decide) rfl (fun ls hl => ?_)
  obtain ⟨n, hp⟩ := hp
  exact w_X3_putSigns_3 C h0 n ((24 : Int32)) _ _ _ _ _ hp hw (lv_sub hl [1, 2, 0] rfl)
