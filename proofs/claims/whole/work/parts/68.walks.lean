set_option maxHeartbeats 4000000 in
set_option maxRecDepth 100000 in
theorem c_X7_table (l : Launch) (G : GX) {Sh : SH} {a0 : Nat} (h0 : isModel G Sh a0) {I : MI} {L : ML} {K : Int32 → MI → ML → Prop} (hp : wp_X7_table G Sh a0 I L K) : CtI l yX7_table (wM yX7_table cX7_table 1 (some .int)) (rmA 0 0) G Sh [.ref a0] I L K := by
  refine ofA (own := RX7) (by decide) rfl (Nat.le_of_ble_eq_true rfl) ?_
  intro p e s m args below meth c ls C hw hl
  obtain ⟨hx, hb, hr, hml, hown, hts, hlocks⟩ := id C
  replace hl : lv_has ls 1 [(0, .ref a0)] := hl
  unfold wp_X7_table at hp
  refine lv_aload_n hx hb dX7_table_0 rfl (lv_at hl 0 rfl) ?_
  refine lv_iconst (v := 0) hx hb dX7_table_1 (by decide) ?_
  refine pf_X7_114 hx hb hts hown hw (h0.1) dX7_table_2 (fun I_1 H locs eI_1 hw => ?_)
  replace hp := hp I_1 eI_1
  refine lv_aload_n hx hb dX7_table_5 rfl (lv_at hl 0 rfl) ?_
  refine gf_X7_118 hx hb hts hown hw (h0.1) dX7_table_6 ?_
  refine lv_bipush (v := 6) hx hb dX7_table_9 (by decide) ?_
  refine lv_icmp_ne (tgt := 17) hx hb dX7_table_11 (by decide) (fun hc_2 => ?_) (fun hc_2 => ?_)
  · replace hp := hp.2 hc_2
    refine lv_aload_n hx hb dX7_table_17 rfl (lv_at hl 0 rfl) ?_
    refine gf_X7_23 hx hb hts hown hw (h0.1) dX7_table_18 ?_
    refine lv_aload_n hx hb dX7_table_21 rfl (lv_at hl 0 rfl) ?_
    refine gf_X7_118 hx hb hts hown hw (h0.1) dX7_table_22 ?_
    refine lv_iconst (v := (-1)) hx hb dX7_table_25 (by decide) ?_
    obtain ⟨hi_3, hp⟩ := hp
    refine r_iast hx hb hw (h0.2.2.2.2.2.1) hi_3 dX7_table_26 (fun I_4 H locs eI_4 hw => ?_)
    replace hp := hp I_4 eI_4
    refine lv_aload_n hx hb dX7_table_27 rfl (lv_at hl 0 rfl) ?_
    refine gf_X7_102 hx hb hts hown hw (h0.1) dX7_table_28 ?_
    refine lv_aload_n hx hb dX7_table_31 rfl (lv_at hl 0 rfl) ?_
    refine gf_X7_118 hx hb hts hown hw (h0.1) dX7_table_32 ?_
    refine lv_iconst (v := (-1)) hx hb dX7_table_35 (by decide) ?_
    obtain ⟨hi_5, hp⟩ := hp
    refine r_iast hx hb hw (h0.2.2.2.2.2.2.2.2.2.2.2.2.2.2.2.2.2.2.2.2.2.2.2.2.2.2.2.2.2.2.2.1) hi_5 dX7_table_36 (fun I_6 H locs eI_6 hw => ?_)
    replace hp := hp I_6 eI_6
    refine lv_aload_n hx hb dX7_table_37 rfl (lv_at hl 0 rfl) ?_
    refine lv_dup hx hb dX7_table_38 rfl ?_
    refine gf_X7_118 hx hb hts hown hw (h0.1) dX7_table_39 ?_
    refine lv_iconst (v := 1) hx hb dX7_table_42 (by decide) ?_
    refine lv_iadd hx hb dX7_table_43 ?_
    refine pf_X7_118 hx hb hts hown hw (h0.1) dX7_table_44 (fun I_7 H locs eI_7 hw => ?_)
    replace hp := hp I_7 eI_7
    refine lv_aload_n hx hb dX7_table_47 rfl (lv_at hl 0 rfl) ?_
    refine gf_X7_118 hx hb hts hown hw (h0.1) dX7_table_48 ?_
    refine lv_iconst (v := 1) hx hb dX7_table_51 (by decide) ?_
    refine lv_isub hx hb dX7_table_52 ?_
    exact r_iret hx hb hr hlocks hw hp dX7_table_53
  · replace hp := hp.1 hc_2
    refine lv_bipush (v := (-4)) hx hb dX7_table_14 (by decide) ?_
    exact r_iret hx hb hr hlocks hw hp dX7_table_16
set_option maxHeartbeats 4000000 in
set_option maxRecDepth 100000 in
theorem c_X7_thrown (l : Launch) (G : GX) {Sh : SH} {a0 : Nat} (h0 : isModel G Sh a0) {I : MI} {L : ML} {K : Int32 → MI → ML → Prop} (hp : wp_X7_thrown G Sh a0 I L K) : CtI l yX7_thrown (wM yX7_thrown cX7_thrown 1 (some .int)) (rmA 0 0) G Sh [.ref a0] I L K := by
  refine ofA (own := RX7) (by decide) rfl (Nat.le_of_ble_eq_true rfl) ?_
  intro p e s m args below meth c ls C hw hl
  obtain ⟨hx, hb, hr, hml, hown, hts, hlocks⟩ := id C
  replace hl : lv_has ls 1 [(0, .ref a0)] := hl
  unfold wp_X7_thrown at hp
  refine lv_aload_n hx hb dX7_thrown_0 rfl (lv_at hl 0 rfl) ?_
  refine gf_X7_114 hx hb hts hown hw (h0.1) dX7_thrown_1 ?_
  exact r_iret hx hb hr hlocks hw hp dX7_thrown_4
set_option maxHeartbeats 4000000 in
set_option maxRecDepth 100000 in
theorem w_X7_type_56 {p : Program} {l : Launch} {e : Env} {s : State} {m : MethodId} {args : Array Value} {below : List Frame} {meth : Method} {c : Code} (C : Cx p s m args meth c cX7_type (some .int) 9 RX7) {G : GX} {Sh : SH} {a0 : Nat} {p1 : Int32} {p2 : Int32} {p3 : Int32} {p4 : Int32} {B24 : Int32 → Int32 → Int32 → MI → ML → Prop} {K : Int32 → MI → ML → Prop} (h0 : isModel G Sh a0) (hB24 : ∀ (xl5 : Int32) (xl6 : Int32) (xl7 : Int32) (I : MI) (L : ML) (H : Heap) (locs : List Loc) (ls : Array Slot), B24 xl5 xl6 xl7 I L → mW G Sh s I L H locs → lv_has ls 9 [(0, .ref a0), (1, .int p1), (2, .int p2), (3, .int p3), (4, .int p4), (5, .int xl5), (6, .int xl6), (7, .int xl7)] → W p l e (rmA 1 24) s m args below meth c H locs 0 0 (eI below G Sh K args s) (F0 m 24 ls [])) : ∀ (xl6 : Int32) (xl7 : Int32) (xl8 : Int32) (xs0 : Int32) (I : MI) (L : ML) (H : Heap) (locs : List Loc) (ls : Array Slot), wp_X7_type_56 G Sh a0 p1 p2 p3 p4 B24 K xl6 xl7 xl8 xs0 I L → mW G Sh s I L H locs → lv_has ls 9 [(0, .ref a0), (1, .int p1), (2, .int p2), (3, .int p3), (4, .int p4), (6, .int xl6), (7, .int xl7), (8, .int xl8)] → W p l e (rmA 1 24) s m args below meth c H locs 0 0 (eI below G Sh K args s) (F0 m 56 ls [.int xs0]) := by
  obtain ⟨hx, hb, hr, hml, hown, hts, hlocks⟩ := id C
  intro xl6 xl7 xl8 xs0 I L H locs ls hp hw hl
  unfold wp_X7_type_56 at hp
  refine lv_istore (lv' := [(5, .int xs0), (0, .ref a0), (1, .int p1), (2, .int p2), (3, .int p3), (4, .int p4), (6, .int xl6), (7, .int xl7), (8, .int xl8)]) hx hb dX7_type_56 hl (by decide) rfl (fun ls hl => ?_)
  refine lv_iload hx hb dX7_type_58 (lv_at hl 6 rfl) ?_
  refine lv_if_eq (tgt := 94) hx hb dX7_type_60 (by decide) (fun hc_16 => ?_) (fun hc_16 => ?_)
  · replace hp := hp.1 hc_16
    refine lv_iconst (v := 0) hx hb dX7_type_94 (by decide) ?_
    refine lv_istore (lv' := [(6, .int (0 : Int32)), (5, .int xs0), (0, .ref a0), (1, .int p1), (2, .int p2), (3, .int p3), (4, .int p4), (7, .int xl7), (8, .int xl8)]) hx hb dX7_type_95 hl (by decide) rfl (fun ls hl => ?_)
    obtain ⟨x_17, ex_17⟩ : ∃ z : Int32, z = xl7 + (1 : Int32) := ⟨_, rfl⟩
    replace hp := hp x_17 ex_17
    refine lv_iinc (v := x_17) (lv' := [(7, .int x_17), (6, .int (0 : Int32)), (5, .int xs0), (0, .ref a0), (1, .int p1), (2, .int p2), (3, .int p3), (4, .int p4), (8, .int xl8)]) hx hb dX7_type_97 hl (k := 7) rfl (by rw [ex_17]; rfl) (by decide) rfl (fun ls hl => ?_)
    refine lv_goto (tgt := 24) hx hb dX7_type_100 (by decide) ?_
    exact hB24 (xs0) ((0 : Int32)) (x_17) _ _ _ _ _ hp hw (lv_sub hl [3, 4, 5, 6, 7, 2, 1, 0] rfl)
  · replace hp := hp.2 hc_16
    refine lv_iload hx hb dX7_type_63 (lv_at hl 8 rfl) ?_
    refine lv_if_eq (tgt := 90) hx hb dX7_type_65 (by decide) (fun hc_18 => ?_) (fun hc_18 => ?_)
    · replace hp := hp.1 hc_18
      refine lv_iconst (v := 1) hx hb dX7_type_90 (by decide) ?_
      refine lv_goto (tgt := 95) hx hb dX7_type_91 (by decide) ?_
      refine lv_istore (lv' := [(6, .int (1 : Int32)), (5, .int xs0), (0, .ref a0), (1, .int p1), (2, .int p2), (3, .int p3), (4, .int p4), (7, .int xl7), (8, .int xl8)]) hx hb dX7_type_95 hl (by decide) rfl (fun ls hl => ?_)
      obtain ⟨x_19, ex_19⟩ : ∃ z : Int32, z = xl7 + (1 : Int32) := ⟨_, rfl⟩
      replace hp := hp x_19 ex_19
      refine lv_iinc (v := x_19) (lv' := [(7, .int x_19), (6, .int (1 : Int32)), (5, .int xs0), (0, .ref a0), (1, .int p1), (2, .int p2), (3, .int p3), (4, .int p4), (8, .int xl8)]) hx hb dX7_type_97 hl (k := 7) rfl (by rw [ex_19]; rfl) (by decide) rfl (fun ls hl => ?_)
      refine lv_goto (tgt := 24) hx hb dX7_type_100 (by decide) ?_
      exact hB24 (xs0) ((1 : Int32)) (x_19) _ _ _ _ _ hp hw (lv_sub hl [3, 4, 5, 6, 7, 2, 1, 0] rfl)
    · replace hp := hp.2 hc_18
      refine lv_iload hx hb dX7_type_68 (lv_at hl 8 rfl) ?_
      refine r_csI (As := [.int xl8]) ⟨hx, hb, hml, hown, hts⟩ (c_X7_isLetter l G  hp) (cw_X7_129 hts ⟨Nat.le_of_ble_eq_true rfl, Nat.le_of_ble_eq_true rfl⟩) hw rfl rfl hl.1 (Nat.le_of_ble_eq_true rfl) ⟨Nat.zero_le _, Nat.zero_le _⟩ dX7_type_70 (fun r_20 I_21 L_22 H locs hp hw => ?_)
      refine lv_if_ne (tgt := 90) hx hb dX7_type_73 (by decide) (fun hc_23 => ?_) (fun hc_23 => ?_)
      · replace hp := hp.2 hc_23
        refine lv_iconst (v := 1) hx hb dX7_type_90 (by decide) ?_
        refine lv_goto (tgt := 95) hx hb dX7_type_91 (by decide) ?_
        refine lv_istore (lv' := [(6, .int (1 : Int32)), (5, .int xs0), (0, .ref a0), (1, .int p1), (2, .int p2), (3, .int p3), (4, .int p4), (7, .int xl7), (8, .int xl8)]) hx hb dX7_type_95 hl (by decide) rfl (fun ls hl => ?_)
        obtain ⟨x_24, ex_24⟩ : ∃ z : Int32, z = xl7 + (1 : Int32) := ⟨_, rfl⟩
        replace hp := hp x_24 ex_24
        refine lv_iinc (v := x_24) (lv' := [(7, .int x_24), (6, .int (1 : Int32)), (5, .int xs0), (0, .ref a0), (1, .int p1), (2, .int p2), (3, .int p3), (4, .int p4), (8, .int xl8)]) hx hb dX7_type_97 hl (k := 7) rfl (by rw [ex_24]; rfl) (by decide) rfl (fun ls hl => ?_)
        refine lv_goto (tgt := 24) hx hb dX7_type_100 (by decide) ?_
        exact hB24 (xs0) ((1 : Int32)) (x_24) _ _ _ _ _ hp hw (lv_sub hl [3, 4, 5, 6, 7, 2, 1, 0] rfl)
      · replace hp := hp.1 hc_23
        refine lv_iload hx hb dX7_type_76 (lv_at hl 8 rfl) ?_
        refine lv_bipush (v := 35) hx hb dX7_type_78 (by decide) ?_
        refine lv_icmp_eq (tgt := 90) hx hb dX7_type_80 (by decide) (fun hc_25 => ?_) (fun hc_25 => ?_)
        · replace hp := hp.1 hc_25
          refine lv_iconst (v := 1) hx hb dX7_type_90 (by decide) ?_
          refine lv_goto (tgt := 95) hx hb dX7_type_91 (by decide) ?_
          refine lv_istore (lv' := [(6, .int (1 : Int32)), (5, .int xs0), (0, .ref a0), (1, .int p1), (2, .int p2), (3, .int p3), (4, .int p4), (7, .int xl7), (8, .int xl8)]) hx hb dX7_type_95 hl (by decide) rfl (fun ls hl => ?_)
          obtain ⟨x_26, ex_26⟩ : ∃ z : Int32, z = xl7 + (1 : Int32) := ⟨_, rfl⟩
          replace hp := hp x_26 ex_26
          refine lv_iinc (v := x_26) (lv' := [(7, .int x_26), (6, .int (1 : Int32)), (5, .int xs0), (0, .ref a0), (1, .int p1), (2, .int p2), (3, .int p3), (4, .int p4), (8, .int xl8)]) hx hb dX7_type_97 hl (k := 7) rfl (by rw [ex_26]; rfl) (by decide) rfl (fun ls hl => ?_)
          refine lv_goto (tgt := 24) hx hb dX7_type_100 (by decide) ?_
          exact hB24 (xs0) ((1 : Int32)) (x_26) _ _ _ _ _ hp hw (lv_sub hl [3, 4, 5, 6, 7, 2, 1, 0] rfl)
        · replace hp := hp.2 hc_25
          refine lv_iload hx hb dX7_type_83 (lv_at hl 8 rfl) ?_
          refine lv_bipush (v := 38) hx hb dX7_type_85 (by decide) ?_
          refine lv_icmp_ne (tgt := 94) hx hb dX7_type_87 (by decide) (fun hc_27 => ?_) (fun hc_27 => ?_)
          · replace hp := hp.2 hc_27
            refine lv_iconst (v := 0) hx hb dX7_type_94 (by decide) ?_
            refine lv_istore (lv' := [(6, .int (0 : Int32)), (5, .int xs0), (0, .ref a0), (1, .int p1), (2, .int p2), (3, .int p3), (4, .int p4), (7, .int xl7), (8, .int xl8)]) hx hb dX7_type_95 hl (by decide) rfl (fun ls hl => ?_)
            obtain ⟨x_28, ex_28⟩ : ∃ z : Int32, z = xl7 + (1 : Int32) := ⟨_, rfl⟩
            replace hp := hp x_28 ex_28
            refine lv_iinc (v := x_28) (lv' := [(7, .int x_28), (6, .int (0 : Int32)), (5, .int xs0), (0, .ref a0), (1, .int p1), (2, .int p2), (3, .int p3), (4, .int p4), (8, .int xl8)]) hx hb dX7_type_97 hl (k := 7) rfl (by rw [ex_28]; rfl) (by decide) rfl (fun ls hl => ?_)
            refine lv_goto (tgt := 24) hx hb dX7_type_100 (by decide) ?_
            exact hB24 (xs0) ((0 : Int32)) (x_28) _ _ _ _ _ hp hw (lv_sub hl [3, 4, 5, 6, 7, 2, 1, 0] rfl)
          · replace hp := hp.1 hc_27
            refine lv_iconst (v := 1) hx hb dX7_type_90 (by decide) ?_
            refine lv_goto (tgt := 95) hx hb dX7_type_91 (by decide) ?_
            refine lv_istore (lv' := [(6, .int (1 : Int32)), (5, .int xs0), (0, .ref a0), (1, .int p1), (2, .int p2), (3, .int p3), (4, .int p4), (7, .int xl7), (8, .int xl8)]) hx hb dX7_type_95 hl (by decide) rfl (fun ls hl => ?_)
            obtain ⟨x_29, ex_29⟩ : ∃ z : Int32, z = xl7 + (1 : Int32) := ⟨_, rfl⟩
            replace hp := hp x_29 ex_29
            refine lv_iinc (v := x_29) (lv' := [(7, .int x_29), (6, .int (1 : Int32)), (5, .int xs0), (0, .ref a0), (1, .int p1), (2, .int p2), (3, .int p3), (4, .int p4), (8, .int xl8)]) hx hb dX7_type_97 hl (k := 7) rfl (by rw [ex_29]; rfl) (by decide) rfl (fun ls hl => ?_)
            refine lv_goto (tgt := 24) hx hb dX7_type_100 (by decide) ?_
            exact hB24 (xs0) ((1 : Int32)) (x_29) _ _ _ _ _ hp hw (lv_sub hl [3, 4, 5, 6, 7, 2, 1, 0] rfl)
set_option maxHeartbeats 4000000 in
set_option maxRecDepth 100000 in
theorem w_X7_type_143 {p : Program} {l : Launch} {e : Env} {s : State} {m : MethodId} {args : Array Value} {below : List Frame} {meth : Method} {c : Code} (C : Cx p s m args meth c cX7_type (some .int) 9 RX7) {G : GX} {Sh : SH} {a0 : Nat} {p1 : Int32} {p2 : Int32} {p3 : Int32} {p4 : Int32} {K : Int32 → MI → ML → Prop} (h0 : isModel G Sh a0) : ∀ (n : Nat) (xl7 : Int32) (I : MI) (L : ML) (H : Heap) (locs : List Loc) (ls : Array Slot), wp_X7_type_143 G Sh a0 p1 p2 p3 p4 K n xl7 I L → mW G Sh s I L H locs → lv_has ls 9 [(0, .ref a0), (1, .int p1), (2, .int p2), (3, .int p3), (4, .int p4), (7, .int xl7)] → W p l e (rmA 1 24) s m args below meth c H locs 0 0 (eI below G Sh K args s) (F0 m 143 ls []) := by
  obtain ⟨hx, hb, hr, hml, hown, hts, hlocks⟩ := id C
  intro n
  induction n with
  | zero => intro xl7 I L H locs ls hp hw hl; exact hp.elim
  | succ n hB143 =>
    intro xl7 I L H locs ls hp hw hl
    replace hp : wb_X7_type_143 G Sh a0 p1 p2 p3 p4 K (wp_X7_type_143 G Sh a0 p1 p2 p3 p4 K n) xl7 I L := hp
    unfold wb_X7_type_143 at hp
    refine lv_iload hx hb dX7_type_143 (lv_at hl 5 rfl) ?_
    refine lv_bipush (v := 12) hx hb dX7_type_145 (by decide) ?_
    refine lv_icmp_ge (tgt := 200) hx hb dX7_type_147 (by decide) (fun hc_30 => ?_) (fun hc_30 => ?_)
    · replace hp := hp.1 hc_30
      refine lv_aload_n hx hb dX7_type_200 rfl (lv_at hl 0 rfl) ?_
      refine gf_X7_13 hx hb hts hown hw (h0.1) dX7_type_201 ?_
      refine lv_iload_n hx hb dX7_type_204 rfl (lv_at hl 1 rfl) ?_
      obtain ⟨hi_31, hp⟩ := hp
      refine r_iald hx hb hw (h0.2.2.1) hi_31 dX7_type_205 ?_
      exact r_iret hx hb hr hlocks hw hp dX7_type_206
    · replace hp := hp.2 hc_30
      refine lv_iload_n hx hb dX7_type_150 rfl (lv_at hl 2 rfl) ?_
      refine lv_iload_n hx hb dX7_type_151 rfl (lv_at hl 3 rfl) ?_
      refine lv_iload hx hb dX7_type_152 (lv_at hl 4 rfl) ?_
      refine lv_iload hx hb dX7_type_154 (lv_at hl 5 rfl) ?_
      refine r_csI (As := [.int p2, .int p3, .int p4, .int xl7]) ⟨hx, hb, hml, hown, hts⟩ (c_X7_byteOf l G  hp) (cw_X7_125 hts ⟨Nat.le_of_ble_eq_true rfl, Nat.le_of_ble_eq_true rfl⟩) hw rfl rfl hl.1 (Nat.le_of_ble_eq_true rfl) ⟨Nat.zero_le _, Nat.zero_le _⟩ dX7_type_156 (fun r_32 I_33 L_34 H locs hp hw => ?_)
      refine lv_istore (lv' := [(8, .int r_32), (0, .ref a0), (1, .int p1), (2, .int p2), (3, .int p3), (4, .int p4), (7, .int xl7)]) hx hb dX7_type_159 hl (by decide) rfl (fun ls hl => ?_)
      refine lv_iload hx hb dX7_type_161 (lv_at hl 0 rfl) ?_
      refine lv_if_eq (tgt := 194) hx hb dX7_type_163 (by decide) (fun hc_35 => ?_) (fun hc_35 => ?_)
      · replace hp := hp.1 hc_35
        obtain ⟨x_36, ex_36⟩ : ∃ z : Int32, z = xl7 + (1 : Int32) := ⟨_, rfl⟩
        replace hp := hp x_36 ex_36
        refine lv_iinc (v := x_36) (lv' := [(7, .int x_36), (8, .int r_32), (0, .ref a0), (1, .int p1), (2, .int p2), (3, .int p3), (4, .int p4)]) hx hb dX7_type_194 hl (k := 6) rfl (by rw [ex_36]; rfl) (by decide) rfl (fun ls hl => ?_)
        refine lv_goto (tgt := 143) hx hb dX7_type_197 (by decide) ?_
        exact hB143 (x_36) _ _ _ _ _ hp hw (lv_sub hl [2, 3, 4, 5, 6, 0] rfl)
      · replace hp := hp.2 hc_35
        refine lv_aload_n hx hb dX7_type_166 rfl (lv_at hl 1 rfl) ?_
        refine gf_X7_7 hx hb hts hown hw (h0.1) dX7_type_167 ?_
        refine lv_bipush (v := 40) hx hb dX7_type_170 (by decide) ?_
        refine lv_iload_n hx hb dX7_type_172 rfl (lv_at hl 2 rfl) ?_
        refine lv_imul hx hb dX7_type_173 ?_
        refine lv_aload_n hx hb dX7_type_174 rfl (lv_at hl 1 rfl) ?_
        refine gf_X7_13 hx hb hts hown hw (h0.1) dX7_type_175 ?_
        refine lv_iload_n hx hb dX7_type_178 rfl (lv_at hl 2 rfl) ?_
        obtain ⟨hi_37, hp⟩ := hp
        refine r_iald hx hb hw (h0.2.2.1) hi_37 dX7_type_179 ?_
        refine lv_iadd hx hb dX7_type_180 ?_
        refine lv_iload hx hb dX7_type_181 (lv_at hl 0 rfl) ?_
        obtain ⟨hi_38, hp⟩ := hp
        refine r_iast hx hb hw (h0.2.1) hi_38 dX7_type_183 (fun I_39 H locs eI_39 hw => ?_)
        replace hp := hp I_39 eI_39
        refine lv_aload_n hx hb dX7_type_184 rfl (lv_at hl 1 rfl) ?_
        refine gf_X7_13 hx hb hts hown hw (h0.1) dX7_type_185 ?_
        refine lv_iload_n hx hb dX7_type_188 rfl (lv_at hl 2 rfl) ?_
        refine lv_dup2_11 hx hb dX7_type_189 rfl rfl ?_
        obtain ⟨hi_40, hp⟩ := hp
        refine r_iald hx hb hw (h0.2.2.1) hi_40 dX7_type_190 ?_
        refine lv_iconst (v := 1) hx hb dX7_type_191 (by decide) ?_
        refine lv_iadd hx hb dX7_type_192 ?_
        obtain ⟨hi_41, hp⟩ := hp
        refine r_iast hx hb hw (h0.2.2.1) hi_41 dX7_type_193 (fun I_42 H locs eI_42 hw => ?_)
        replace hp := hp I_42 eI_42
        obtain ⟨x_43, ex_43⟩ : ∃ z : Int32, z = xl7 + (1 : Int32) := ⟨_, rfl⟩
        replace hp := hp x_43 ex_43
        refine lv_iinc (v := x_43) (lv' := [(7, .int x_43), (8, .int r_32), (0, .ref a0), (1, .int p1), (2, .int p2), (3, .int p3), (4, .int p4)]) hx hb dX7_type_194 hl (k := 6) rfl (by rw [ex_43]; rfl) (by decide) rfl (fun ls hl => ?_)
        refine lv_goto (tgt := 143) hx hb dX7_type_197 (by decide) ?_
        exact hB143 (x_43) _ _ _ _ _ hp hw (lv_sub hl [2, 3, 4, 5, 6, 0] rfl)
set_option maxHeartbeats 4000000 in
set_option maxRecDepth 100000 in
theorem w_X7_type_24 {p : Program} {l : Launch} {e : Env} {s : State} {m : MethodId} {args : Array Value} {below : List Frame} {meth : Method} {c : Code} (C : Cx p s m args meth c cX7_type (some .int) 9 RX7) {G : GX} {Sh : SH} {a0 : Nat} {p1 : Int32} {p2 : Int32} {p3 : Int32} {p4 : Int32} {K : Int32 → MI → ML → Prop} (h0 : isModel G Sh a0) : ∀ (n : Nat) (xl5 : Int32) (xl6 : Int32) (xl7 : Int32) (I : MI) (L : ML) (H : Heap) (locs : List Loc) (ls : Array Slot), wp_X7_type_24 G Sh a0 p1 p2 p3 p4 K n xl5 xl6 xl7 I L → mW G Sh s I L H locs → lv_has ls 9 [(0, .ref a0), (1, .int p1), (2, .int p2), (3, .int p3), (4, .int p4), (5, .int xl5), (6, .int xl6), (7, .int xl7)] → W p l e (rmA 1 24) s m args below meth c H locs 0 0 (eI below G Sh K args s) (F0 m 24 ls []) := by
  obtain ⟨hx, hb, hr, hml, hown, hts, hlocks⟩ := id C
  intro n
  induction n with
  | zero => intro xl5 xl6 xl7 I L H locs ls hp hw hl; exact hp.elim
  | succ n hB24 =>
    intro xl5 xl6 xl7 I L H locs ls hp hw hl
    replace hp : wb_X7_type_24 G Sh a0 p1 p2 p3 p4 K (wp_X7_type_24 G Sh a0 p1 p2 p3 p4 K n) xl5 xl6 xl7 I L := hp
    unfold wb_X7_type_24 at hp
    refine lv_iload hx hb dX7_type_24 (lv_at hl 7 rfl) ?_
    refine lv_bipush (v := 12) hx hb dX7_type_26 (by decide) ?_
    refine lv_icmp_ge (tgt := 103) hx hb dX7_type_28 (by decide) (fun hc_6 => ?_) (fun hc_6 => ?_)
    · replace hp := hp.1 hc_6
      refine lv_iload hx hb dX7_type_103 (lv_at hl 6 rfl) ?_
      refine lv_if_ne (tgt := 111) hx hb dX7_type_105 (by decide) (fun hc_7 => ?_) (fun hc_7 => ?_)
      · replace hp := hp.2 hc_7
        refine lv_aload_n hx hb dX7_type_111 rfl (lv_at hl 0 rfl) ?_
        refine gf_X7_16 hx hb hts hown hw (h0.1) dX7_type_112 ?_
        refine lv_iload_n hx hb dX7_type_115 rfl (lv_at hl 1 rfl) ?_
        obtain ⟨hi_8, hp⟩ := hp
        refine r_zald hx hb hw (h0.2.2.2.1) hi_8 dX7_type_116 ?_
        refine lv_if_eq (tgt := 123) hx hb dX7_type_117 (by decide) (fun hc_9 => ?_) (fun hc_9 => ?_)
        · replace hp := hp.1 hc_9
          refine lv_aload_n hx hb dX7_type_123 rfl (lv_at hl 0 rfl) ?_
          refine gf_X7_13 hx hb hts hown hw (h0.1) dX7_type_124 ?_
          refine lv_iload_n hx hb dX7_type_127 rfl (lv_at hl 1 rfl) ?_
          obtain ⟨hi_10, hp⟩ := hp
          refine r_iald hx hb hw (h0.2.2.1) hi_10 dX7_type_128 ?_
          refine lv_iload hx hb dX7_type_129 (lv_at hl 5 rfl) ?_
          refine lv_iadd hx hb dX7_type_131 ?_
          refine lv_bipush (v := 40) hx hb dX7_type_132 (by decide) ?_
          refine lv_icmp_le (tgt := 140) hx hb dX7_type_134 (by decide) (fun hc_11 => ?_) (fun hc_11 => ?_)
          · replace hp := hp.1 hc_11
            refine lv_iconst (v := 0) hx hb dX7_type_140 (by decide) ?_
            refine lv_istore (lv' := [(7, .int (0 : Int32)), (0, .ref a0), (1, .int p1), (2, .int p2), (3, .int p3), (4, .int p4), (5, .int xl5), (6, .int xl6)]) hx hb dX7_type_141 hl (by decide) rfl (fun ls hl => ?_)
            obtain ⟨n, hp⟩ := hp
            exact w_X7_type_143 C h0 n ((0 : Int32)) _ _ _ _ _ hp hw (lv_sub hl [1, 2, 3, 4, 5, 0] rfl)
          · replace hp := hp.2 hc_11
            refine lv_bipush (v := (-4)) hx hb dX7_type_137 (by decide) ?_
            exact r_iret hx hb hr hlocks hw hp dX7_type_139
        · replace hp := hp.2 hc_9
          refine lv_bipush (v := (-3)) hx hb dX7_type_120 (by decide) ?_
          exact r_iret hx hb hr hlocks hw hp dX7_type_122
      · replace hp := hp.1 hc_7
        refine lv_bipush (v := (-2)) hx hb dX7_type_108 (by decide) ?_
        exact r_iret hx hb hr hlocks hw hp dX7_type_110
    · replace hp := hp.2 hc_6
      refine lv_iload_n hx hb dX7_type_31 rfl (lv_at hl 2 rfl) ?_
      refine lv_iload_n hx hb dX7_type_32 rfl (lv_at hl 3 rfl) ?_
      refine lv_iload hx hb dX7_type_33 (lv_at hl 4 rfl) ?_
      refine lv_iload hx hb dX7_type_35 (lv_at hl 7 rfl) ?_
      refine r_csI (As := [.int p2, .int p3, .int p4, .int xl7]) ⟨hx, hb, hml, hown, hts⟩ (c_X7_byteOf l G  hp) (cw_X7_125 hts ⟨Nat.le_of_ble_eq_true rfl, Nat.le_of_ble_eq_true rfl⟩) hw rfl rfl hl.1 (Nat.le_of_ble_eq_true rfl) ⟨Nat.zero_le _, Nat.zero_le _⟩ dX7_type_37 (fun r_12 I_13 L_14 H locs hp hw => ?_)
      refine lv_istore (lv' := [(8, .int r_12), (0, .ref a0), (1, .int p1), (2, .int p2), (3, .int p3), (4, .int p4), (5, .int xl5), (6, .int xl6), (7, .int xl7)]) hx hb dX7_type_40 hl (by decide) rfl (fun ls hl => ?_)
      refine lv_iload hx hb dX7_type_42 (lv_at hl 0 rfl) ?_
      refine lv_if_eq (tgt := 54) hx hb dX7_type_44 (by decide) (fun hc_15 => ?_) (fun hc_15 => ?_)
      · replace hp := hp.1 hc_15
        refine lv_iload hx hb dX7_type_54 (lv_at hl 6 rfl) ?_
        exact w_X7_type_56 C h0 hB24 (xl6) (xl7) (r_12) (xl5) _ _ _ _ _ hp hw (lv_sub hl [1, 2, 3, 4, 5, 7, 8, 0] rfl)
      · replace hp := hp.2 hc_15
        refine lv_iload hx hb dX7_type_47 (lv_at hl 6 rfl) ?_
        refine lv_iconst (v := 1) hx hb dX7_type_49 (by decide) ?_
        refine lv_iadd hx hb dX7_type_50 ?_
        refine lv_goto (tgt := 56) hx hb dX7_type_51 (by decide) ?_
        exact w_X7_type_56 C h0 hB24 (xl6) (xl7) (r_12) ((xl5 + (1 : Int32))) _ _ _ _ _ hp hw (lv_sub hl [1, 2, 3, 4, 5, 7, 8, 0] rfl)
set_option maxHeartbeats 4000000 in
set_option maxRecDepth 100000 in
theorem c_X7_type (l : Launch) (G : GX) {Sh : SH} {a0 : Nat} {p1 : Int32} {p2 : Int32} {p3 : Int32} {p4 : Int32} (h0 : isModel G Sh a0) {I : MI} {L : ML} {K : Int32 → MI → ML → Prop} (hp : wp_X7_type G Sh a0 p1 p2 p3 p4 I L K) : CtI l yX7_type (wM yX7_type cX7_type 9 (some .int)) (rmA 1 24) G Sh [.ref a0, .int p1, .int p2, .int p3, .int p4] I L K := by
  refine ofA (own := RX7) (by decide) rfl (Nat.le_of_ble_eq_true rfl) ?_
  intro p e s m args below meth c ls C hw hl
  obtain ⟨hx, hb, hr, hml, hown, hts, hlocks⟩ := id C
  replace hl : lv_has ls 9 [(0, .ref a0), (1, .int p1), (2, .int p2), (3, .int p3), (4, .int p4)] := hl
  unfold wp_X7_type at hp
  refine lv_aload_n hx hb dX7_type_0 rfl (lv_at hl 0 rfl) ?_
  refine lv_iconst (v := 0) hx hb dX7_type_1 (by decide) ?_
  refine pf_X7_114 hx hb hts hown hw (h0.1) dX7_type_2 (fun I_1 H locs eI_1 hw => ?_)
  replace hp := hp I_1 eI_1
  refine lv_aload_n hx hb dX7_type_5 rfl (lv_at hl 0 rfl) ?_
  refine lv_iload_n hx hb dX7_type_6 rfl (lv_at hl 1 rfl) ?_
  refine r_cvI (As := [.int p1]) ⟨hx, hb, hml, hown, hts⟩ (c_X7_isTable l G (h0) hp) (cw_X7_121 hts ⟨Nat.le_of_ble_eq_true rfl, Nat.le_of_ble_eq_true rfl⟩) hw (hw.recv (h0.1) rfl rfl) rfl rfl hl.1 (Nat.le_of_ble_eq_true rfl) ⟨Nat.zero_le _, Nat.zero_le _⟩ dX7_type_7 (fun r_2 I_3 L_4 H locs hp hw => ?_)
  refine lv_if_ne (tgt := 15) hx hb dX7_type_10 (by decide) (fun hc_5 => ?_) (fun hc_5 => ?_)
  · replace hp := hp.2 hc_5
    refine lv_iconst (v := 0) hx hb dX7_type_15 (by decide) ?_
    refine lv_istore (lv' := [(5, .int (0 : Int32)), (0, .ref a0), (1, .int p1), (2, .int p2), (3, .int p3), (4, .int p4)]) hx hb dX7_type_16 hl (by decide) rfl (fun ls hl => ?_)
    refine lv_iconst (v := 1) hx hb dX7_type_18 (by decide) ?_
    refine lv_istore (lv' := [(6, .int (1 : Int32)), (5, .int (0 : Int32)), (0, .ref a0), (1, .int p1), (2, .int p2), (3, .int p3), (4, .int p4)]) hx hb dX7_type_19 hl (by decide) rfl (fun ls hl => ?_)
    refine lv_iconst (v := 0) hx hb dX7_type_21 (by decide) ?_
    refine lv_istore (lv' := [(7, .int (0 : Int32)), (6, .int (1 : Int32)), (5, .int (0 : Int32)), (0, .ref a0), (1, .int p1), (2, .int p2), (3, .int p3), (4, .int p4)]) hx hb dX7_type_22 hl (by decide) rfl (fun ls hl => ?_)
    obtain ⟨n, hp⟩ := hp
    exact w_X7_type_24 C h0 n ((0 : Int32)) ((1 : Int32)) ((0 : Int32)) _ _ _ _ _ hp hw (lv_sub hl [3, 4, 5, 6, 7, 2, 1, 0] rfl)
  · replace hp := hp.1 hc_5
    refine lv_iconst (v := (-1)) hx hb dX7_type_13 (by decide) ?_
    exact r_iret hx hb hr hlocks hw hp dX7_type_14
set_option maxHeartbeats 4000000 in
set_option maxRecDepth 100000 in
theorem c_X7_width (l : Launch) (G : GX) {Sh : SH} {a0 : Nat} {p1 : Int32} {p2 : Int32} (h0 : isModel G Sh a0) {I : MI} {L : ML} {K : Int32 → MI → ML → Prop} (hp : wp_X7_width G Sh a0 p1 p2 I L K) : CtI l yX7_width (wM yX7_width cX7_width 3 (some .int)) (rmA 2 43) G Sh [.ref a0, .int p1, .int p2] I L K := by
  refine ofA (own := RX7) (by decide) rfl (Nat.le_of_ble_eq_true rfl) ?_
  intro p e s m args below meth c ls C hw hl
  obtain ⟨hx, hb, hr, hml, hown, hts, hlocks⟩ := id C
  replace hl : lv_has ls 3 [(0, .ref a0), (1, .int p1), (2, .int p2)] := hl
  unfold wp_X7_width at hp
  refine lv_aload_n hx hb dX7_width_0 rfl (lv_at hl 0 rfl) ?_
  refine lv_iconst (v := 0) hx hb dX7_width_1 (by decide) ?_
  refine pf_X7_114 hx hb hts hown hw (h0.1) dX7_width_2 (fun I_1 H locs eI_1 hw => ?_)
  replace hp := hp I_1 eI_1
  refine lv_aload_n hx hb dX7_width_5 rfl (lv_at hl 0 rfl) ?_
  refine lv_iload_n hx hb dX7_width_6 rfl (lv_at hl 1 rfl) ?_
  refine lv_iload_n hx hb dX7_width_7 rfl (lv_at hl 2 rfl) ?_
  refine r_cvI (As := [.int p1, .int p2]) ⟨hx, hb, hml, hown, hts⟩ (c_X7_isColumn l G (h0) hp) (cw_X7_216 hts ⟨Nat.le_of_ble_eq_true rfl, Nat.le_of_ble_eq_true rfl⟩) hw (hw.recv (h0.1) rfl rfl) rfl rfl hl.1 (Nat.le_of_ble_eq_true rfl) ⟨Nat.zero_le _, Nat.zero_le _⟩ dX7_width_8 (fun r_2 I_3 L_4 H locs hp hw => ?_)
  refine lv_if_eq (tgt := 28) hx hb dX7_width_11 (by decide) (fun hc_5 => ?_) (fun hc_5 => ?_)
  · replace hp := hp.1 hc_5
    refine lv_iconst (v := (-1)) hx hb dX7_width_28 (by decide) ?_
    exact r_iret hx hb hr hlocks hw hp dX7_width_29
  · replace hp := hp.2 hc_5
    refine lv_aload_n hx hb dX7_width_14 rfl (lv_at hl 0 rfl) ?_
    refine gf_X7_86 hx hb hts hown hw (h0.1) dX7_width_15 ?_
    refine lv_bipush (v := 24) hx hb dX7_width_18 (by decide) ?_
    refine lv_iload_n hx hb dX7_width_20 rfl (lv_at hl 1 rfl) ?_
    refine lv_imul hx hb dX7_width_21 ?_
    refine lv_iload_n hx hb dX7_width_22 rfl (lv_at hl 2 rfl) ?_
    refine lv_iadd hx hb dX7_width_23 ?_
    refine lv_topi (fun x_6 ex_6 => ?_)
    replace hp := hp x_6 ex_6
    obtain ⟨hi_7, hp⟩ := hp
    refine r_iald hx hb hw (h0.2.2.2.2.2.2.2.2.2.2.2.2.2.2.2.2.2.2.2.2.2.2.2.2.2.2.1) hi_7 dX7_width_24 ?_
    refine lv_goto (tgt := 29) hx hb dX7_width_25 (by decide) ?_
    exact r_iret hx hb hr hlocks hw hp dX7_width_29
