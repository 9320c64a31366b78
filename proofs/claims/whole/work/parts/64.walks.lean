set_option maxHeartbeats 4000000 in
set_option maxRecDepth 100000 in
theorem c_X7_isTable (l : Launch) (G : GX) {Sh : SH} {a0 : Nat} {p1 : Int32} (h0 : isModel G Sh a0) {I : MI} {L : ML} {K : Int32 → MI → ML → Prop} (hp : wp_X7_isTable G Sh a0 p1 I L K) : CtI l yX7_isTable (wM yX7_isTable cX7_isTable 2 (some .boolean)) (rmA 0 0) G Sh [.ref a0, .int p1] I L K := by
  refine ofA (own := RX7) (by decide) rfl (Nat.le_of_ble_eq_true rfl) ?_
  intro p e s m args below meth c ls C hw hl
  obtain ⟨hx, hb, hr, hml, hown, hts, hlocks⟩ := id C
  replace hl : lv_has ls 2 [(0, .ref a0), (1, .int p1)] := hl
  unfold wp_X7_isTable at hp
  refine lv_iload_n hx hb dX7_isTable_0 rfl (lv_at hl 1 rfl) ?_
  refine lv_if_lt (tgt := 16) hx hb dX7_isTable_1 (by decide) (fun hc_1 => ?_) (fun hc_1 => ?_)
  · replace hp := hp.1 hc_1
    refine lv_iconst (v := 0) hx hb dX7_isTable_16 (by decide) ?_
    exact r_zret hx hb hr hlocks hw ⟨rfl, hp⟩ dX7_isTable_17
  · replace hp := hp.2 hc_1
    refine lv_iload_n hx hb dX7_isTable_4 rfl (lv_at hl 1 rfl) ?_
    refine lv_aload_n hx hb dX7_isTable_5 rfl (lv_at hl 0 rfl) ?_
    refine gf_X7_118 hx hb hts hown hw (h0.1) dX7_isTable_6 ?_
    refine lv_icmp_ge (tgt := 16) hx hb dX7_isTable_9 (by decide) (fun hc_2 => ?_) (fun hc_2 => ?_)
    · replace hp := hp.1 hc_2
      refine lv_iconst (v := 0) hx hb dX7_isTable_16 (by decide) ?_
      exact r_zret hx hb hr hlocks hw ⟨rfl, hp⟩ dX7_isTable_17
    · replace hp := hp.2 hc_2
      refine lv_iconst (v := 1) hx hb dX7_isTable_12 (by decide) ?_
      refine lv_goto (tgt := 17) hx hb dX7_isTable_13 (by decide) ?_
      exact r_zret hx hb hr hlocks hw ⟨rfl, hp⟩ dX7_isTable_17
set_option maxHeartbeats 4000000 in
set_option maxRecDepth 100000 in
theorem c_X7_isColumn (l : Launch) (G : GX) {Sh : SH} {a0 : Nat} {p1 : Int32} {p2 : Int32} (h0 : isModel G Sh a0) {I : MI} {L : ML} {K : Int32 → MI → ML → Prop} (hp : wp_X7_isColumn G Sh a0 p1 p2 I L K) : CtI l yX7_isColumn (wM yX7_isColumn cX7_isColumn 3 (some .boolean)) (rmA 1 21) G Sh [.ref a0, .int p1, .int p2] I L K := by
  refine ofA (own := RX7) (by decide) rfl (Nat.le_of_ble_eq_true rfl) ?_
  intro p e s m args below meth c ls C hw hl
  obtain ⟨hx, hb, hr, hml, hown, hts, hlocks⟩ := id C
  replace hl : lv_has ls 3 [(0, .ref a0), (1, .int p1), (2, .int p2)] := hl
  unfold wp_X7_isColumn at hp
  refine lv_aload_n hx hb dX7_isColumn_0 rfl (lv_at hl 0 rfl) ?_
  refine lv_iload_n hx hb dX7_isColumn_1 rfl (lv_at hl 1 rfl) ?_
  refine r_cvI (As := [.int p1]) ⟨hx, hb, hml, hown, hts⟩ (c_X7_isTable l G (h0) hp) (cw_X7_121 hts ⟨Nat.le_of_ble_eq_true rfl, Nat.le_of_ble_eq_true rfl⟩) hw (hw.recv (h0.1) rfl rfl) rfl rfl hl.1 (Nat.le_of_ble_eq_true rfl) ⟨Nat.zero_le _, Nat.zero_le _⟩ dX7_isColumn_2 (fun r_1 I_2 L_3 H locs hp hw => ?_)
  refine lv_if_eq (tgt := 35) hx hb dX7_isColumn_5 (by decide) (fun hc_4 => ?_) (fun hc_4 => ?_)
  · replace hp := hp.1 hc_4
    refine lv_iconst (v := 0) hx hb dX7_isColumn_35 (by decide) ?_
    exact r_zret hx hb hr hlocks hw ⟨rfl, hp⟩ dX7_isColumn_36
  · replace hp := hp.2 hc_4
    refine lv_aload_n hx hb dX7_isColumn_8 rfl (lv_at hl 0 rfl) ?_
    refine gf_X7_80 hx hb hts hown hw (h0.1) dX7_isColumn_9 ?_
    refine lv_iload_n hx hb dX7_isColumn_12 rfl (lv_at hl 1 rfl) ?_
    obtain ⟨hi_5, hp⟩ := hp
    refine r_iald hx hb hw (h0.2.2.2.2.2.2.2.2.2.2.2.2.2.2.2.2.2.2.2.2.2.2.2.2.1) hi_5 dX7_isColumn_13 ?_
    refine lv_if_le (tgt := 35) hx hb dX7_isColumn_14 (by decide) (fun hc_6 => ?_) (fun hc_6 => ?_)
    · replace hp := hp.1 hc_6
      refine lv_iconst (v := 0) hx hb dX7_isColumn_35 (by decide) ?_
      exact r_zret hx hb hr hlocks hw ⟨rfl, hp⟩ dX7_isColumn_36
    · replace hp := hp.2 hc_6
      refine lv_iload_n hx hb dX7_isColumn_17 rfl (lv_at hl 2 rfl) ?_
      refine lv_if_lt (tgt := 35) hx hb dX7_isColumn_18 (by decide) (fun hc_7 => ?_) (fun hc_7 => ?_)
      · replace hp := hp.1 hc_7
        refine lv_iconst (v := 0) hx hb dX7_isColumn_35 (by decide) ?_
        exact r_zret hx hb hr hlocks hw ⟨rfl, hp⟩ dX7_isColumn_36
      · replace hp := hp.2 hc_7
        refine lv_iload_n hx hb dX7_isColumn_21 rfl (lv_at hl 2 rfl) ?_
        refine lv_aload_n hx hb dX7_isColumn_22 rfl (lv_at hl 0 rfl) ?_
        refine gf_X7_83 hx hb hts hown hw (h0.1) dX7_isColumn_23 ?_
        refine lv_iload_n hx hb dX7_isColumn_26 rfl (lv_at hl 1 rfl) ?_
        obtain ⟨hi_8, hp⟩ := hp
        refine r_iald hx hb hw (h0.2.2.2.2.2.2.2.2.2.2.2.2.2.2.2.2.2.2.2.2.2.2.2.2.2.1) hi_8 dX7_isColumn_27 ?_
        refine lv_icmp_ge (tgt := 35) hx hb dX7_isColumn_28 (by decide) (fun hc_9 => ?_) (fun hc_9 => ?_)
        · replace hp := hp.1 hc_9
          refine lv_iconst (v := 0) hx hb dX7_isColumn_35 (by decide) ?_
          exact r_zret hx hb hr hlocks hw ⟨rfl, hp⟩ dX7_isColumn_36
        · replace hp := hp.2 hc_9
          refine lv_iconst (v := 1) hx hb dX7_isColumn_31 (by decide) ?_
          refine lv_goto (tgt := 36) hx hb dX7_isColumn_32 (by decide) ?_
          exact r_zret hx hb hr hlocks hw ⟨rfl, hp⟩ dX7_isColumn_36
set_option maxHeartbeats 4000000 in
set_option maxRecDepth 100000 in
theorem w_X7_at_62 {p : Program} {l : Launch} {e : Env} {s : State} {m : MethodId} {args : Array Value} {below : List Frame} {meth : Method} {c : Code} (C : Cx p s m args meth c cX7_at (some .long) 9 RX7) {G : GX} {Sh : SH} {a0 : Nat} {p1 : Int32} {p2 : Int32} {p3 : Int32} {p4 : Int32} {K : Int64 → MI → ML → Prop} (h0 : isModel G Sh a0) : ∀ (xs0 : Int32) (I : MI) (L : ML) (H : Heap) (locs : List Loc) (ls : Array Slot), wp_X7_at_62 G Sh a0 p1 p2 p3 p4 K xs0 I L → mW G Sh s I L H locs → lv_has ls 9 [(0, .ref a0), (1, .int p1), (2, .int p2), (3, .int p3), (4, .int p4)] → W p l e (rmA 2 43) s m args below meth c H locs 0 0 (eL below G Sh K args s) (F0 m 62 ls [.int xs0, .ref a0]) := by
  obtain ⟨hx, hb, hr, hml, hown, hts, hlocks⟩ := id C
  intro xs0 I L H locs ls hp hw hl
  unfold wp_X7_at_62 at hp
  refine pf_X7_114 hx hb hts hown hw (h0.1) dX7_at_62 (fun I_14 H locs eI_14 hw => ?_)
  replace hp := hp I_14 eI_14
  refine lv_aload_n hx hb dX7_at_65 rfl (lv_at hl 0 rfl) ?_
  refine gf_X7_114 hx hb hts hown hw (h0.1) dX7_at_66 ?_
  refine lv_if_le (tgt := 74) hx hb dX7_at_69 (by decide) (fun hc_15 => ?_) (fun hc_15 => ?_)
  · replace hp := hp.1 hc_15
    refine lv_sipush (v := 480) hx hb dX7_at_74 (by decide) ?_
    refine lv_iload_n hx hb dX7_at_77 rfl (lv_at hl 1 rfl) ?_
    refine lv_imul hx hb dX7_at_78 ?_
    refine lv_aload_n hx hb dX7_at_79 rfl (lv_at hl 0 rfl) ?_
    refine gf_X7_53 hx hb hts hown hw (h0.1) dX7_at_80 ?_
    refine lv_bipush (v := 20) hx hb dX7_at_83 (by decide) ?_
    refine lv_iload_n hx hb dX7_at_85 rfl (lv_at hl 1 rfl) ?_
    refine lv_imul hx hb dX7_at_86 ?_
    refine lv_iload_n hx hb dX7_at_87 rfl (lv_at hl 2 rfl) ?_
    refine lv_iadd hx hb dX7_at_88 ?_
    refine lv_topi (fun x_16 ex_16 => ?_)
    replace hp := hp x_16 ex_16
    obtain ⟨hi_17, hp⟩ := hp
    refine r_iald hx hb hw (h0.2.2.2.2.2.2.2.2.2.2.2.2.2.2.2.1) hi_17 dX7_at_89 ?_
    refine lv_iadd hx hb dX7_at_90 ?_
    refine lv_iload_n hx hb dX7_at_91 rfl (lv_at hl 3 rfl) ?_
    refine lv_iadd hx hb dX7_at_92 ?_
    refine lv_topi (fun x_18 ex_18 => ?_)
    replace hp := hp x_18 ex_18
    refine lv_istore (lv' := [(5, .int x_18), (0, .ref a0), (1, .int p1), (2, .int p2), (3, .int p3), (4, .int p4)]) hx hb dX7_at_93 hl (by decide) rfl (fun ls hl => ?_)
    refine lv_iload hx hb dX7_at_95 (lv_at hl 5 rfl) ?_
    refine lv_iconst (v := 3) hx hb dX7_at_97 (by decide) ?_
    refine lv_icmp_ge (tgt := 143) hx hb dX7_at_98 (by decide) (fun hc_19 => ?_) (fun hc_19 => ?_)
    · replace hp := hp.1 hc_19
      refine lv_aload_n hx hb dX7_at_143 rfl (lv_at hl 1 rfl) ?_
      refine gf_X7_65 hx hb hts hown hw (h0.1) dX7_at_144 ?_
      refine lv_iload hx hb dX7_at_147 (lv_at hl 0 rfl) ?_
      obtain ⟨hi_20, hp⟩ := hp
      refine r_iald hx hb hw (h0.2.2.2.2.2.2.2.2.2.2.2.2.2.2.2.2.2.2.2.1) hi_20 dX7_at_149 ?_
      refine lv_aload_n hx hb dX7_at_150 rfl (lv_at hl 1 rfl) ?_
      refine gf_X7_68 hx hb hts hown hw (h0.1) dX7_at_151 ?_
      refine lv_iload hx hb dX7_at_154 (lv_at hl 0 rfl) ?_
      obtain ⟨hi_21, hp⟩ := hp
      refine r_iald hx hb hw (h0.2.2.2.2.2.2.2.2.2.2.2.2.2.2.2.2.2.2.2.2.1) hi_21 dX7_at_156 ?_
      refine lv_iadd hx hb dX7_at_157 ?_
      refine lv_iconst (v := 1) hx hb dX7_at_158 (by decide) ?_
      refine lv_isub hx hb dX7_at_159 ?_
      refine lv_topi (fun x_22 ex_22 => ?_)
      replace hp := hp x_22 ex_22
      refine lv_istore (lv' := [(6, .int x_22), (5, .int x_18), (0, .ref a0), (1, .int p1), (2, .int p2), (3, .int p3), (4, .int p4)]) hx hb dX7_at_160 hl (by decide) rfl (fun ls hl => ?_)
      refine lv_aload_n hx hb dX7_at_162 rfl (lv_at hl 2 rfl) ?_
      refine lv_iload_n hx hb dX7_at_163 rfl (lv_at hl 3 rfl) ?_
      refine lv_iload hx hb dX7_at_164 (lv_at hl 0 rfl) ?_
      refine r_cvI (As := [.int p1, .int x_22]) ⟨hx, hb, hml, hown, hts⟩ (c_X7_isColumn l G (h0) hp) (cw_X7_216 hts ⟨Nat.le_of_ble_eq_true rfl, Nat.le_of_ble_eq_true rfl⟩) hw (hw.recv (h0.1) rfl rfl) rfl rfl hl.1 (Nat.le_of_ble_eq_true rfl) ⟨Nat.zero_le _, Nat.zero_le _⟩ dX7_at_166 (fun r_23 I_24 L_25 H locs hp hw => ?_)
      refine lv_if_ne (tgt := 174) hx hb dX7_at_169 (by decide) (fun hc_26 => ?_) (fun hc_26 => ?_)
      · replace hp := hp.2 hc_26
        refine lv_aload_n hx hb dX7_at_174 rfl (lv_at hl 2 rfl) ?_
        refine gf_X7_92 hx hb hts hown hw (h0.1) dX7_at_175 ?_
        refine lv_bipush (v := 24) hx hb dX7_at_178 (by decide) ?_
        refine lv_iload_n hx hb dX7_at_180 rfl (lv_at hl 3 rfl) ?_
        refine lv_imul hx hb dX7_at_181 ?_
        refine lv_aload_n hx hb dX7_at_182 rfl (lv_at hl 2 rfl) ?_
        refine gf_X7_65 hx hb hts hown hw (h0.1) dX7_at_183 ?_
        refine lv_iload hx hb dX7_at_186 (lv_at hl 1 rfl) ?_
        obtain ⟨hi_27, hp⟩ := hp
        refine r_iald hx hb hw (h0.2.2.2.2.2.2.2.2.2.2.2.2.2.2.2.2.2.2.2.1) hi_27 dX7_at_188 ?_
        refine lv_iadd hx hb dX7_at_189 ?_
        refine lv_topi (fun x_28 ex_28 => ?_)
        replace hp := hp x_28 ex_28
        obtain ⟨hi_29, hp⟩ := hp
        refine r_lald hx hb hw (h0.2.2.2.2.2.2.2.2.2.2.2.2.2.2.2.2.2.2.2.2.2.2.2.2.2.2.2.2.1) hi_29 dX7_at_190 ?_
        refine lv_topl (fun y_30 ey_30 => ?_)
        replace hp := hp y_30 ey_30
        refine lv_lstore (lv' := [(7, .long y_30), (6, .int x_22), (5, .int x_18), (0, .ref a0), (1, .int p1), (2, .int p2), (3, .int p3), (4, .int p4)]) hx hb dX7_at_191 hl (by decide) rfl (fun ls hl => ?_)
        refine lv_iload hx hb dX7_at_193 (lv_at hl 7 rfl) ?_
        refine lv_iconst (v := 3) hx hb dX7_at_195 (by decide) ?_
        refine lv_icmp_ne (tgt := 204) hx hb dX7_at_196 (by decide) (fun hc_31 => ?_) (fun hc_31 => ?_)
        · replace hp := hp.2 hc_31
          refine lv_aload_n hx hb dX7_at_204 rfl (lv_at hl 3 rfl) ?_
          refine gf_X7_92 hx hb hts hown hw (h0.1) dX7_at_205 ?_
          refine lv_bipush (v := 24) hx hb dX7_at_208 (by decide) ?_
          refine lv_iload_n hx hb dX7_at_210 rfl (lv_at hl 4 rfl) ?_
          refine lv_imul hx hb dX7_at_211 ?_
          refine lv_iload hx hb dX7_at_212 (lv_at hl 1 rfl) ?_
          refine lv_iadd hx hb dX7_at_214 ?_
          refine lv_topi (fun x_32 ex_32 => ?_)
          replace hp := hp x_32 ex_32
          obtain ⟨hi_33, hp⟩ := hp
          refine r_lald hx hb hw (h0.2.2.2.2.2.2.2.2.2.2.2.2.2.2.2.2.2.2.2.2.2.2.2.2.2.2.2.2.1) hi_33 dX7_at_215 ?_
          refine lv_aload_n hx hb dX7_at_216 rfl (lv_at hl 3 rfl) ?_
          refine gf_X7_86 hx hb hts hown hw (h0.1) dX7_at_217 ?_
          refine lv_bipush (v := 24) hx hb dX7_at_220 (by decide) ?_
          refine lv_iload_n hx hb dX7_at_222 rfl (lv_at hl 4 rfl) ?_
          refine lv_imul hx hb dX7_at_223 ?_
          refine lv_iload hx hb dX7_at_224 (lv_at hl 1 rfl) ?_
          refine lv_iadd hx hb dX7_at_226 ?_
          refine lv_topi (fun x_34 ex_34 => ?_)
          replace hp := hp x_34 ex_34
          obtain ⟨hi_35, hp⟩ := hp
          refine r_iald hx hb hw (h0.2.2.2.2.2.2.2.2.2.2.2.2.2.2.2.2.2.2.2.2.2.2.2.2.2.2.1) hi_35 dX7_at_227 ?_
          refine lv_i2l hx hb dX7_at_228 rfl ?_
          refine lv_ladd hx hb dX7_at_229 ?_
          refine lv_lload hx hb dX7_at_230 (lv_at hl 0 rfl) ?_
          refine lv_lsub hx hb dX7_at_232 ?_
          exact r_lret hx hb hr hlocks hw hp dX7_at_233
        · replace hp := hp.1 hc_31
          refine lv_lload hx hb dX7_at_199 (lv_at hl 0 rfl) ?_
          refine lv_goto (tgt := 233) hx hb dX7_at_201 (by decide) ?_
          exact r_lret hx hb hr hlocks hw hp dX7_at_233
      · replace hp := hp.1 hc_26
        refine lv_lconst (v := 0) hx hb dX7_at_172 (by decide) ?_
        exact r_lret hx hb hr hlocks hw hp dX7_at_173
    · replace hp := hp.2 hc_19
      refine lv_iload hx hb dX7_at_101 (lv_at hl 5 rfl) ?_
      refine lv_if_ne (tgt := 117) hx hb dX7_at_103 (by decide) (fun hc_36 => ?_) (fun hc_36 => ?_)
      · replace hp := hp.2 hc_36
        refine lv_iload hx hb dX7_at_117 (lv_at hl 5 rfl) ?_
        refine lv_iconst (v := 1) hx hb dX7_at_119 (by decide) ?_
        refine lv_icmp_ne (tgt := 134) hx hb dX7_at_120 (by decide) (fun hc_37 => ?_) (fun hc_37 => ?_)
        · replace hp := hp.2 hc_37
          refine lv_aload_n hx hb dX7_at_134 rfl (lv_at hl 1 rfl) ?_
          refine gf_X7_68 hx hb hts hown hw (h0.1) dX7_at_135 ?_
          refine lv_iload hx hb dX7_at_138 (lv_at hl 0 rfl) ?_
          obtain ⟨hi_38, hp⟩ := hp
          refine r_iald hx hb hw (h0.2.2.2.2.2.2.2.2.2.2.2.2.2.2.2.2.2.2.2.2.1) hi_38 dX7_at_140 ?_
          refine lv_i2l hx hb dX7_at_141 rfl ?_
          exact r_lret hx hb hr hlocks hw hp dX7_at_142
        · replace hp := hp.1 hc_37
          refine lv_aload_n hx hb dX7_at_123 rfl (lv_at hl 1 rfl) ?_
          refine gf_X7_65 hx hb hts hown hw (h0.1) dX7_at_124 ?_
          refine lv_iload hx hb dX7_at_127 (lv_at hl 0 rfl) ?_
          obtain ⟨hi_39, hp⟩ := hp
          refine r_iald hx hb hw (h0.2.2.2.2.2.2.2.2.2.2.2.2.2.2.2.2.2.2.2.1) hi_39 dX7_at_129 ?_
          refine lv_i2l hx hb dX7_at_130 rfl ?_
          refine lv_goto (tgt := 142) hx hb dX7_at_131 (by decide) ?_
          exact r_lret hx hb hr hlocks hw hp dX7_at_142
      · replace hp := hp.1 hc_36
        refine lv_aload_n hx hb dX7_at_106 rfl (lv_at hl 1 rfl) ?_
        refine gf_X7_62 hx hb hts hown hw (h0.1) dX7_at_107 ?_
        refine lv_iload hx hb dX7_at_110 (lv_at hl 0 rfl) ?_
        obtain ⟨hi_40, hp⟩ := hp
        refine r_iald hx hb hw (h0.2.2.2.2.2.2.2.2.2.2.2.2.2.2.2.2.2.2.1) hi_40 dX7_at_112 ?_
        refine lv_i2l hx hb dX7_at_113 rfl ?_
        refine lv_goto (tgt := 142) hx hb dX7_at_114 (by decide) ?_
        exact r_lret hx hb hr hlocks hw hp dX7_at_142
  · replace hp := hp.2 hc_15
    refine lv_lconst (v := 0) hx hb dX7_at_72 (by decide) ?_
    exact r_lret hx hb hr hlocks hw hp dX7_at_73
set_option maxHeartbeats 4000000 in
set_option maxRecDepth 100000 in
theorem c_X7_at (l : Launch) (G : GX) {Sh : SH} {a0 : Nat} {p1 : Int32} {p2 : Int32} {p3 : Int32} {p4 : Int32} (h0 : isModel G Sh a0) {I : MI} {L : ML} {K : Int64 → MI → ML → Prop} (hp : wp_X7_at G Sh a0 p1 p2 p3 p4 I L K) : CtL l yX7_at (wM yX7_at cX7_at 9 (some .long)) (rmA 2 43) G Sh [.ref a0, .int p1, .int p2, .int p3, .int p4] I L K := by
  refine ofA (own := RX7) (by decide) rfl (Nat.le_of_ble_eq_true rfl) ?_
  intro p e s m args below meth c ls C hw hl
  obtain ⟨hx, hb, hr, hml, hown, hts, hlocks⟩ := id C
  replace hl : lv_has ls 9 [(0, .ref a0), (1, .int p1), (2, .int p2), (3, .int p3), (4, .int p4)] := hl
  unfold wp_X7_at at hp
  refine lv_aload_n hx hb dX7_at_0 rfl (lv_at hl 0 rfl) ?_
  refine lv_aload_n hx hb dX7_at_1 rfl (lv_at hl 0 rfl) ?_
  refine lv_iload_n hx hb dX7_at_2 rfl (lv_at hl 1 rfl) ?_
  refine r_cvI (As := [.int p1]) ⟨hx, hb, hml, hown, hts⟩ (c_X7_isTable l G (h0) hp) (cw_X7_121 hts ⟨Nat.le_of_ble_eq_true rfl, Nat.le_of_ble_eq_true rfl⟩) hw (hw.recv (h0.1) rfl rfl) rfl rfl hl.1 (Nat.le_of_ble_eq_true rfl) ⟨Nat.zero_le _, Nat.zero_le _⟩ dX7_at_3 (fun r_1 I_2 L_3 H locs hp hw => ?_)
  refine lv_if_eq (tgt := 38) hx hb dX7_at_6 (by decide) (fun hc_4 => ?_) (fun hc_4 => ?_)
  · replace hp := hp.1 hc_4
    refine lv_iconst (v := 1) hx hb dX7_at_38 (by decide) ?_
    refine lv_goto (tgt := 62) hx hb dX7_at_39 (by decide) ?_
    exact w_X7_at_62 C h0 ((1 : Int32)) _ _ _ _ _ hp hw (lv_sub hl [0, 1, 2, 3, 4] rfl)
  · replace hp := hp.2 hc_4
    refine lv_iload_n hx hb dX7_at_9 rfl (lv_at hl 2 rfl) ?_
    refine lv_if_lt (tgt := 38) hx hb dX7_at_10 (by decide) (fun hc_5 => ?_) (fun hc_5 => ?_)
    · replace hp := hp.1 hc_5
      refine lv_iconst (v := 1) hx hb dX7_at_38 (by decide) ?_
      refine lv_goto (tgt := 62) hx hb dX7_at_39 (by decide) ?_
      exact w_X7_at_62 C h0 ((1 : Int32)) _ _ _ _ _ hp hw (lv_sub hl [0, 1, 2, 3, 4] rfl)
    · replace hp := hp.2 hc_5
      refine lv_iload_n hx hb dX7_at_13 rfl (lv_at hl 2 rfl) ?_
      refine lv_aload_n hx hb dX7_at_14 rfl (lv_at hl 0 rfl) ?_
      refine gf_X7_47 hx hb hts hown hw (h0.1) dX7_at_15 ?_
      refine lv_iload_n hx hb dX7_at_18 rfl (lv_at hl 1 rfl) ?_
      obtain ⟨hi_6, hp⟩ := hp
      refine r_iald hx hb hw (h0.2.2.2.2.2.2.2.2.2.2.2.2.2.1) hi_6 dX7_at_19 ?_
      refine lv_icmp_ge (tgt := 38) hx hb dX7_at_20 (by decide) (fun hc_7 => ?_) (fun hc_7 => ?_)
      · replace hp := hp.1 hc_7
        refine lv_iconst (v := 1) hx hb dX7_at_38 (by decide) ?_
        refine lv_goto (tgt := 62) hx hb dX7_at_39 (by decide) ?_
        exact w_X7_at_62 C h0 ((1 : Int32)) _ _ _ _ _ hp hw (lv_sub hl [0, 1, 2, 3, 4] rfl)
      · replace hp := hp.2 hc_7
        refine lv_iload_n hx hb dX7_at_23 rfl (lv_at hl 3 rfl) ?_
        refine lv_if_lt (tgt := 38) hx hb dX7_at_24 (by decide) (fun hc_8 => ?_) (fun hc_8 => ?_)
        · replace hp := hp.1 hc_8
          refine lv_iconst (v := 1) hx hb dX7_at_38 (by decide) ?_
          refine lv_goto (tgt := 62) hx hb dX7_at_39 (by decide) ?_
          exact w_X7_at_62 C h0 ((1 : Int32)) _ _ _ _ _ hp hw (lv_sub hl [0, 1, 2, 3, 4] rfl)
        · replace hp := hp.2 hc_8
          refine lv_iload hx hb dX7_at_27 (lv_at hl 4 rfl) ?_
          refine lv_if_lt (tgt := 38) hx hb dX7_at_29 (by decide) (fun hc_9 => ?_) (fun hc_9 => ?_)
          · replace hp := hp.1 hc_9
            refine lv_iconst (v := 1) hx hb dX7_at_38 (by decide) ?_
            refine lv_goto (tgt := 62) hx hb dX7_at_39 (by decide) ?_
            exact w_X7_at_62 C h0 ((1 : Int32)) _ _ _ _ _ hp hw (lv_sub hl [0, 1, 2, 3, 4] rfl)
          · replace hp := hp.2 hc_9
            refine lv_iload hx hb dX7_at_32 (lv_at hl 4 rfl) ?_
            refine lv_iconst (v := 4) hx hb dX7_at_34 (by decide) ?_
            refine lv_icmp_le (tgt := 42) hx hb dX7_at_35 (by decide) (fun hc_10 => ?_) (fun hc_10 => ?_)
            · replace hp := hp.1 hc_10
              refine lv_iload_n hx hb dX7_at_42 rfl (lv_at hl 3 rfl) ?_
              refine lv_aload_n hx hb dX7_at_43 rfl (lv_at hl 0 rfl) ?_
              refine gf_X7_56 hx hb hts hown hw (h0.1) dX7_at_44 ?_
              refine lv_bipush (v := 20) hx hb dX7_at_47 (by decide) ?_
              refine lv_iload_n hx hb dX7_at_49 rfl (lv_at hl 1 rfl) ?_
              refine lv_imul hx hb dX7_at_50 ?_
              refine lv_iload_n hx hb dX7_at_51 rfl (lv_at hl 2 rfl) ?_
              refine lv_iadd hx hb dX7_at_52 ?_
              refine lv_topi (fun x_11 ex_11 => ?_)
              replace hp := hp x_11 ex_11
              obtain ⟨hi_12, hp⟩ := hp
              refine r_iald hx hb hw (h0.2.2.2.2.2.2.2.2.2.2.2.2.2.2.2.2.1) hi_12 dX7_at_53 ?_
              refine lv_icmp_lt (tgt := 61) hx hb dX7_at_54 (by decide) (fun hc_13 => ?_) (fun hc_13 => ?_)
              · replace hp := hp.1 hc_13
                refine lv_iconst (v := 0) hx hb dX7_at_61 (by decide) ?_
                exact w_X7_at_62 C h0 ((0 : Int32)) _ _ _ _ _ hp hw (lv_sub hl [0, 1, 2, 3, 4] rfl)
              · replace hp := hp.2 hc_13
                refine lv_iconst (v := 1) hx hb dX7_at_57 (by decide) ?_
                refine lv_goto (tgt := 62) hx hb dX7_at_58 (by decide) ?_
                exact w_X7_at_62 C h0 ((1 : Int32)) _ _ _ _ _ hp hw (lv_sub hl [0, 1, 2, 3, 4] rfl)
            · replace hp := hp.2 hc_10
              refine lv_iconst (v := 1) hx hb dX7_at_38 (by decide) ?_
              refine lv_goto (tgt := 62) hx hb dX7_at_39 (by decide) ?_
              exact w_X7_at_62 C h0 ((1 : Int32)) _ _ _ _ _ hp hw (lv_sub hl [0, 1, 2, 3, 4] rfl)
set_option maxHeartbeats 4000000 in
set_option maxRecDepth 100000 in
theorem c_X7_stand (l : Launch) (G : GX) {Sh : SH} {a0 : Nat} {p1 : Int32} {p2 : Int32} (h0 : isModel G Sh a0) {I : MI} {L : ML} {K : MI → ML → Prop} (hp : wp_X7_stand G Sh a0 p1 p2 I L K) : CtV l yX7_stand (wM yX7_stand cX7_stand 3 none) (rmA 0 0) G Sh [.ref a0, .int p1, .int p2] I L K := by
  refine ofA (own := RX7) (by decide) rfl (Nat.le_of_ble_eq_true rfl) ?_
  intro p e s m args below meth c ls C hw hl
  obtain ⟨hx, hb, hr, hml, hown, hts, hlocks⟩ := id C
  replace hl : lv_has ls 3 [(0, .ref a0), (1, .int p1), (2, .int p2)] := hl
  unfold wp_X7_stand at hp
  refine lv_aload_n hx hb dX7_stand_0 rfl (lv_at hl 0 rfl) ?_
  refine gf_X7_74 hx hb hts hown hw (h0.1) dX7_stand_1 ?_
  refine lv_bipush (v := 40) hx hb dX7_stand_4 (by decide) ?_
  refine lv_iload_n hx hb dX7_stand_6 rfl (lv_at hl 1 rfl) ?_
  refine lv_imul hx hb dX7_stand_7 ?_
  refine lv_aload_n hx hb dX7_stand_8 rfl (lv_at hl 0 rfl) ?_
  refine gf_X7_71 hx hb hts hown hw (h0.1) dX7_stand_9 ?_
  refine lv_iload_n hx hb dX7_stand_12 rfl (lv_at hl 1 rfl) ?_
  obtain ⟨hi_1, hp⟩ := hp
  refine r_iald hx hb hw (h0.2.2.2.2.2.2.2.2.2.2.2.2.2.2.2.2.2.2.2.2.2.1) hi_1 dX7_stand_13 ?_
  refine lv_iadd hx hb dX7_stand_14 ?_
  refine lv_iload_n hx hb dX7_stand_15 rfl (lv_at hl 2 rfl) ?_
  obtain ⟨hi_2, hp⟩ := hp
  refine r_iast hx hb hw (h0.2.2.2.2.2.2.2.2.2.2.2.2.2.2.2.2.2.2.2.2.2.2.1) hi_2 dX7_stand_16 (fun I_3 H locs eI_3 hw => ?_)
  replace hp := hp I_3 eI_3
  refine lv_aload_n hx hb dX7_stand_17 rfl (lv_at hl 0 rfl) ?_
  refine gf_X7_71 hx hb hts hown hw (h0.1) dX7_stand_18 ?_
  refine lv_iload_n hx hb dX7_stand_21 rfl (lv_at hl 1 rfl) ?_
  refine lv_dup2_11 hx hb dX7_stand_22 rfl rfl ?_
  obtain ⟨hi_4, hp⟩ := hp
  refine r_iald hx hb hw (h0.2.2.2.2.2.2.2.2.2.2.2.2.2.2.2.2.2.2.2.2.2.1) hi_4 dX7_stand_23 ?_
  refine lv_iconst (v := 1) hx hb dX7_stand_24 (by decide) ?_
  refine lv_iadd hx hb dX7_stand_25 ?_
  obtain ⟨hi_5, hp⟩ := hp
  refine r_iast hx hb hw (h0.2.2.2.2.2.2.2.2.2.2.2.2.2.2.2.2.2.2.2.2.2.1) hi_5 dX7_stand_26 (fun I_6 H locs eI_6 hw => ?_)
  replace hp := hp I_6 eI_6
  exact r_vret hx hb hr hlocks hw hp dX7_stand_27
set_option maxHeartbeats 4000000 in
set_option maxRecDepth 100000 in
theorem c_X7_between (l : Launch) (G : GX) {Sh : SH} {a0 : Nat} {p1 : Int32} (h0 : isModel G Sh a0) {I : MI} {L : ML} {K : Int32 → MI → ML → Prop} (hp : wp_X7_between G Sh a0 p1 I L K) : CtI l yX7_between (wM yX7_between cX7_between 2 (some .int)) (rmA 1 22) G Sh [.ref a0, .int p1] I L K := by
  refine ofA (own := RX7) (by decide) rfl (Nat.le_of_ble_eq_true rfl) ?_
  intro p e s m args below meth c ls C hw hl
  obtain ⟨hx, hb, hr, hml, hown, hts, hlocks⟩ := id C
  replace hl : lv_has ls 2 [(0, .ref a0), (1, .int p1)] := hl
  unfold wp_X7_between at hp
  refine lv_aload_n hx hb dX7_between_0 rfl (lv_at hl 0 rfl) ?_
  refine lv_iconst (v := 0) hx hb dX7_between_1 (by decide) ?_
  refine pf_X7_114 hx hb hts hown hw (h0.1) dX7_between_2 (fun I_1 H locs eI_1 hw => ?_)
  replace hp := hp I_1 eI_1
  refine lv_aload_n hx hb dX7_between_5 rfl (lv_at hl 0 rfl) ?_
  refine lv_iload_n hx hb dX7_between_6 rfl (lv_at hl 1 rfl) ?_
  refine r_cvI (As := [.int p1]) ⟨hx, hb, hml, hown, hts⟩ (c_X7_isTable l G (h0) hp) (cw_X7_121 hts ⟨Nat.le_of_ble_eq_true rfl, Nat.le_of_ble_eq_true rfl⟩) hw (hw.recv (h0.1) rfl rfl) rfl rfl hl.1 (Nat.le_of_ble_eq_true rfl) ⟨Nat.zero_le _, Nat.zero_le _⟩ dX7_between_7 (fun r_2 I_3 L_4 H locs hp hw => ?_)
  refine lv_if_ne (tgt := 15) hx hb dX7_between_10 (by decide) (fun hc_5 => ?_) (fun hc_5 => ?_)
  · replace hp := hp.2 hc_5
    refine lv_aload_n hx hb dX7_between_15 rfl (lv_at hl 0 rfl) ?_
    refine gf_X7_16 hx hb hts hown hw (h0.1) dX7_between_16 ?_
    refine lv_iload_n hx hb dX7_between_19 rfl (lv_at hl 1 rfl) ?_
    obtain ⟨hi_6, hp⟩ := hp
    refine r_zald hx hb hw (h0.2.2.2.1) hi_6 dX7_between_20 ?_
    refine lv_if_eq (tgt := 33) hx hb dX7_between_21 (by decide) (fun hc_7 => ?_) (fun hc_7 => ?_)
    · replace hp := hp.1 hc_7
      refine lv_bipush (v := (-3)) hx hb dX7_between_33 (by decide) ?_
      exact r_iret hx hb hr hlocks hw hp dX7_between_35
    · replace hp := hp.2 hc_7
      refine lv_aload_n hx hb dX7_between_24 rfl (lv_at hl 0 rfl) ?_
      refine gf_X7_50 hx hb hts hown hw (h0.1) dX7_between_25 ?_
      refine lv_iload_n hx hb dX7_between_28 rfl (lv_at hl 1 rfl) ?_
      obtain ⟨hi_8, hp⟩ := hp
      refine r_zald hx hb hw (h0.2.2.2.2.2.2.2.2.2.2.2.2.2.2.1) hi_8 dX7_between_29 ?_
      refine lv_if_eq (tgt := 36) hx hb dX7_between_30 (by decide) (fun hc_9 => ?_) (fun hc_9 => ?_)
      · replace hp := hp.1 hc_9
        refine lv_aload_n hx hb dX7_between_36 rfl (lv_at hl 0 rfl) ?_
        refine gf_X7_77 hx hb hts hown hw (h0.1) dX7_between_37 ?_
        refine lv_iload_n hx hb dX7_between_40 rfl (lv_at hl 1 rfl) ?_
        obtain ⟨hi_10, hp⟩ := hp
        refine r_iald hx hb hw (h0.2.2.2.2.2.2.2.2.2.2.2.2.2.2.2.2.2.2.2.2.2.2.2.1) hi_10 dX7_between_41 ?_
        refine lv_bipush (v := 20) hx hb dX7_between_42 (by decide) ?_
        refine lv_icmp_ne (tgt := 50) hx hb dX7_between_44 (by decide) (fun hc_11 => ?_) (fun hc_11 => ?_)
        · replace hp := hp.2 hc_11
          refine lv_aload_n hx hb dX7_between_50 rfl (lv_at hl 0 rfl) ?_
          refine lv_iload_n hx hb dX7_between_51 rfl (lv_at hl 1 rfl) ?_
          refine lv_iconst (v := (-1)) hx hb dX7_between_52 (by decide) ?_
          refine lv_aload_n hx hb dX7_between_53 rfl (lv_at hl 0 rfl) ?_
          refine gf_X7_77 hx hb hts hown hw (h0.1) dX7_between_54 ?_
          refine lv_iload_n hx hb dX7_between_57 rfl (lv_at hl 1 rfl) ?_
          obtain ⟨hi_12, hp⟩ := hp
          refine r_iald hx hb hw (h0.2.2.2.2.2.2.2.2.2.2.2.2.2.2.2.2.2.2.2.2.2.2.2.1) hi_12 dX7_between_58 ?_
          refine lv_isub hx hb dX7_between_59 ?_
          refine r_cvV (As := [.int p1, .int ((-1 : Int32) - (I_3 (a0 + 23) (p1).toNatClampNeg))]) ⟨hx, hb, hml, hown, hts⟩ (c_X7_stand l G (h0) hp) (cw_X7_163 hts ⟨Nat.le_of_ble_eq_true rfl, Nat.le_of_ble_eq_true rfl⟩) hw (hw.recv (h0.1) rfl rfl) rfl rfl hl.1 (Nat.le_of_ble_eq_true rfl) ⟨Nat.zero_le _, Nat.zero_le _⟩ dX7_between_60 (fun I_14 L_15 H locs hp hw => ?_)
          refine lv_aload_n hx hb dX7_between_63 rfl (lv_at hl 0 rfl) ?_
          refine gf_X7_77 hx hb hts hown hw (h0.1) dX7_between_64 ?_
          refine lv_iload_n hx hb dX7_between_67 rfl (lv_at hl 1 rfl) ?_
          refine lv_dup2_11 hx hb dX7_between_68 rfl rfl ?_
          obtain ⟨hi_16, hp⟩ := hp
          refine r_iald hx hb hw (h0.2.2.2.2.2.2.2.2.2.2.2.2.2.2.2.2.2.2.2.2.2.2.2.1) hi_16 dX7_between_69 ?_
          refine lv_iconst (v := 1) hx hb dX7_between_70 (by decide) ?_
          refine lv_iadd hx hb dX7_between_71 ?_
          obtain ⟨hi_17, hp⟩ := hp
          refine r_iast hx hb hw (h0.2.2.2.2.2.2.2.2.2.2.2.2.2.2.2.2.2.2.2.2.2.2.2.1) hi_17 dX7_between_72 (fun I_18 H locs eI_18 hw => ?_)
          replace hp := hp I_18 eI_18
          refine lv_aload_n hx hb dX7_between_73 rfl (lv_at hl 0 rfl) ?_
          refine gf_X7_77 hx hb hts hown hw (h0.1) dX7_between_74 ?_
          refine lv_iload_n hx hb dX7_between_77 rfl (lv_at hl 1 rfl) ?_
          obtain ⟨hi_19, hp⟩ := hp
          refine r_iald hx hb hw (h0.2.2.2.2.2.2.2.2.2.2.2.2.2.2.2.2.2.2.2.2.2.2.2.1) hi_19 dX7_between_78 ?_
          exact r_iret hx hb hr hlocks hw hp dX7_between_79
        · replace hp := hp.1 hc_11
          refine lv_bipush (v := (-4)) hx hb dX7_between_47 (by decide) ?_
          exact r_iret hx hb hr hlocks hw hp dX7_between_49
      · replace hp := hp.2 hc_9
        refine lv_bipush (v := (-3)) hx hb dX7_between_33 (by decide) ?_
        exact r_iret hx hb hr hlocks hw hp dX7_between_35
  · replace hp := hp.1 hc_5
    refine lv_iconst (v := (-1)) hx hb dX7_between_13 (by decide) ?_
    exact r_iret hx hb hr hlocks hw hp dX7_between_14
set_option maxHeartbeats 4000000 in
set_option maxRecDepth 100000 in
theorem w_X7_byteOf_20 {p : Program} {l : Launch} {e : Env} {s : State} {m : MethodId} {args : Array Value} {below : List Frame} {meth : Method} {c : Code} (C : Cx p s m args meth c cX7_byteOf (some .int) 5 RX7) {G : GX} {Sh : SH} {p0 : Int32} {p1 : Int32} {p2 : Int32} {p3 : Int32} {K : Int32 → MI → ML → Prop}  : ∀ (xs0 : Int32) (I : MI) (L : ML) (H : Heap) (locs : List Loc) (ls : Array Slot), wp_X7_byteOf_20 G Sh p0 p1 p2 p3 K xs0 I L → mW G Sh s I L H locs → lv_has ls 5 [(3, .int p3)] → W p l e (rmA 0 0) s m args below meth c H locs 0 0 (eI below G Sh K args s) (F0 m 20 ls [.int xs0]) := by
  obtain ⟨hx, hb, hr, hml, hown, hts, hlocks⟩ := id C
  intro xs0 I L H locs ls hp hw hl
  unfold wp_X7_byteOf_20 at hp
  refine lv_istore (lv' := [(4, .int xs0), (3, .int p3)]) hx hb dX7_byteOf_20 hl (by decide) rfl (fun ls hl => ?_)
  refine lv_iload hx hb dX7_byteOf_22 (lv_at hl 0 rfl) ?_
  refine lv_bipush (v := 24) hx hb dX7_byteOf_24 (by decide) ?_
  refine lv_bipush (v := 8) hx hb dX7_byteOf_26 (by decide) ?_
  refine lv_iload_n hx hb dX7_byteOf_28 rfl (lv_at hl 1 rfl) ?_
  refine lv_iconst (v := 4) hx hb dX7_byteOf_29 (by decide) ?_
  obtain ⟨hz_3, hp⟩ := hp
  refine lv_irem hx hb dX7_byteOf_30 hz_3 ?_
  refine lv_imul hx hb dX7_byteOf_31 ?_
  refine lv_isub hx hb dX7_byteOf_32 ?_
  refine lv_ishr hx hb dX7_byteOf_33 ?_
  refine lv_sipush (v := 255) hx hb dX7_byteOf_34 (by decide) ?_
  refine lv_iand hx hb dX7_byteOf_37 ?_
  exact r_iret hx hb hr hlocks hw hp dX7_byteOf_38
set_option maxHeartbeats 4000000 in
set_option maxRecDepth 100000 in
theorem c_X7_byteOf (l : Launch) (G : GX) {Sh : SH} {p0 : Int32} {p1 : Int32} {p2 : Int32} {p3 : Int32}  {I : MI} {L : ML} {K : Int32 → MI → ML → Prop} (hp : wp_X7_byteOf G Sh p0 p1 p2 p3 I L K) : CtI l yX7_byteOf (wM yX7_byteOf cX7_byteOf 5 (some .int)) (rmA 0 0) G Sh [.int p0, .int p1, .int p2, .int p3] I L K := by
  refine ofA (own := RX7) (by decide) rfl (Nat.le_of_ble_eq_true rfl) ?_
  intro p e s m args below meth c ls C hw hl
  obtain ⟨hx, hb, hr, hml, hown, hts, hlocks⟩ := id C
  replace hl : lv_has ls 5 [(0, .int p0), (1, .int p1), (2, .int p2), (3, .int p3)] := hl
  unfold wp_X7_byteOf at hp
  refine lv_iload_n hx hb dX7_byteOf_0 rfl (lv_at hl 3 rfl) ?_
  refine lv_iconst (v := 4) hx hb dX7_byteOf_1 (by decide) ?_
  refine lv_icmp_ge (tgt := 9) hx hb dX7_byteOf_2 (by decide) (fun hc_1 => ?_) (fun hc_1 => ?_)
  · replace hp := hp.1 hc_1
    refine lv_iload_n hx hb dX7_byteOf_9 rfl (lv_at hl 3 rfl) ?_
    refine lv_bipush (v := 8) hx hb dX7_byteOf_10 (by decide) ?_
    refine lv_icmp_ge (tgt := 19) hx hb dX7_byteOf_12 (by decide) (fun hc_2 => ?_) (fun hc_2 => ?_)
    · replace hp := hp.1 hc_2
      refine lv_iload_n hx hb dX7_byteOf_19 rfl (lv_at hl 2 rfl) ?_
      exact w_X7_byteOf_20 C  (p2) _ _ _ _ _ hp hw (lv_sub hl [3] rfl)
    · replace hp := hp.2 hc_2
      refine lv_iload_n hx hb dX7_byteOf_15 rfl (lv_at hl 1 rfl) ?_
      refine lv_goto (tgt := 20) hx hb dX7_byteOf_16 (by decide) ?_
      exact w_X7_byteOf_20 C  (p1) _ _ _ _ _ hp hw (lv_sub hl [3] rfl)
  · replace hp := hp.2 hc_1
    refine lv_iload_n hx hb dX7_byteOf_5 rfl (lv_at hl 0 rfl) ?_
    refine lv_goto (tgt := 20) hx hb dX7_byteOf_6 (by decide) ?_
    exact w_X7_byteOf_20 C  (p0) _ _ _ _ _ hp hw (lv_sub hl [3] rfl)
set_option maxHeartbeats 4000000 in
set_option maxRecDepth 100000 in
theorem c_X7_columnsOf (l : Launch) (G : GX) {Sh : SH} {a0 : Nat} {p1 : Int32} (h0 : isModel G Sh a0) {I : MI} {L : ML} {K : Int32 → MI → ML → Prop} (hp : wp_X7_columnsOf G Sh a0 p1 I L K) : CtI l yX7_columnsOf (wM yX7_columnsOf cX7_columnsOf 2 (some .int)) (rmA 0 0) G Sh [.ref a0, .int p1] I L K := by
  refine ofA (own := RX7) (by decide) rfl (Nat.le_of_ble_eq_true rfl) ?_
  intro p e s m args below meth c ls C hw hl
  obtain ⟨hx, hb, hr, hml, hown, hts, hlocks⟩ := id C
  replace hl : lv_has ls 2 [(0, .ref a0), (1, .int p1)] := hl
  unfold wp_X7_columnsOf at hp
  refine lv_aload_n hx hb dX7_columnsOf_0 rfl (lv_at hl 0 rfl) ?_
  refine gf_X7_23 hx hb hts hown hw (h0.1) dX7_columnsOf_1 ?_
  refine lv_iload_n hx hb dX7_columnsOf_4 rfl (lv_at hl 1 rfl) ?_
  obtain ⟨hi_1, hp⟩ := hp
  refine r_iald hx hb hw (h0.2.2.2.2.2.1) hi_1 dX7_columnsOf_5 ?_
  refine lv_if_lt (tgt := 14) hx hb dX7_columnsOf_6 (by decide) (fun hc_2 => ?_) (fun hc_2 => ?_)
  · replace hp := hp.1 hc_2
    refine lv_aload_n hx hb dX7_columnsOf_14 rfl (lv_at hl 0 rfl) ?_
    refine gf_X7_20 hx hb hts hown hw (h0.1) dX7_columnsOf_15 ?_
    refine lv_iload_n hx hb dX7_columnsOf_18 rfl (lv_at hl 1 rfl) ?_
    obtain ⟨hi_3, hp⟩ := hp
    refine r_iald hx hb hw (h0.2.2.2.2.1) hi_3 dX7_columnsOf_19 ?_
    exact r_iret hx hb hr hlocks hw hp dX7_columnsOf_20
  · replace hp := hp.2 hc_2
    refine lv_bipush (v := 24) hx hb dX7_columnsOf_9 (by decide) ?_
    refine lv_goto (tgt := 20) hx hb dX7_columnsOf_11 (by decide) ?_
    exact r_iret hx hb hr hlocks hw hp dX7_columnsOf_20
set_option maxHeartbeats 4000000 in
set_option maxRecDepth 100000 in
theorem w_X7_count_24 {p : Program} {l : Launch} {e : Env} {s : State} {m : MethodId} {args : Array Value} {below : List Frame} {meth : Method} {c : Code} (C : Cx p s m args meth c cX7_count (some .long) 3 RX7) {G : GX} {Sh : SH} {a0 : Nat} {p1 : Int32} {p2 : Int32} {K : Int64 → MI → ML → Prop} (h0 : isModel G Sh a0) : ∀ (xs0 : Int32) (I : MI) (L : ML) (H : Heap) (locs : List Loc) (ls : Array Slot), wp_X7_count_24 G Sh a0 p1 p2 K xs0 I L → mW G Sh s I L H locs → lv_has ls 3 [(0, .ref a0), (1, .int p1), (2, .int p2)] → W p l e (rmA 1 21) s m args below meth c H locs 0 0 (eL below G Sh K args s) (F0 m 24 ls [.int xs0, .ref a0]) := by
  obtain ⟨hx, hb, hr, hml, hown, hts, hlocks⟩ := id C
  intro xs0 I L H locs ls hp hw hl
  unfold wp_X7_count_24 at hp
  refine pf_X7_114 hx hb hts hown hw (h0.1) dX7_count_24 (fun I_7 H locs eI_7 hw => ?_)
  replace hp := hp I_7 eI_7
  refine lv_aload_n hx hb dX7_count_27 rfl (lv_at hl 0 rfl) ?_
  refine gf_X7_114 hx hb hts hown hw (h0.1) dX7_count_28 ?_
  refine lv_if_le (tgt := 36) hx hb dX7_count_31 (by decide) (fun hc_8 => ?_) (fun hc_8 => ?_)
  · replace hp := hp.1 hc_8
    refine lv_iload_n hx hb dX7_count_36 rfl (lv_at hl 2 rfl) ?_
    by_cases hc_9 : p2 = (0 : Int32)
    · replace hp := hp.1 hc_9
      refine lv_tableIn (off := 59) (tgt := 96) hx hb dX7_count_37 (by rw [hc_9]; decide) (by rw [hc_9]; decide) (by rw [hc_9]; rfl) (by decide) ?_
      refine lv_aload_n hx hb dX7_count_96 rfl (lv_at hl 0 rfl) ?_
      refine gf_X7_16 hx hb hts hown hw (h0.1) dX7_count_97 ?_
      refine lv_iload_n hx hb dX7_count_100 rfl (lv_at hl 1 rfl) ?_
      obtain ⟨hi_10, hp⟩ := hp
      refine r_zald hx hb hw (h0.2.2.2.1) hi_10 dX7_count_101 ?_
      refine lv_if_eq (tgt := 115) hx hb dX7_count_102 (by decide) (fun hc_11 => ?_) (fun hc_11 => ?_)
      · replace hp := hp.1 hc_11
        refine lv_lconst (v := 0) hx hb dX7_count_115 (by decide) ?_
        exact r_lret hx hb hr hlocks hw hp dX7_count_116
      · replace hp := hp.2 hc_11
        refine lv_aload_n hx hb dX7_count_105 rfl (lv_at hl 0 rfl) ?_
        refine gf_X7_20 hx hb hts hown hw (h0.1) dX7_count_106 ?_
        refine lv_iload_n hx hb dX7_count_109 rfl (lv_at hl 1 rfl) ?_
        obtain ⟨hi_12, hp⟩ := hp
        refine r_iald hx hb hw (h0.2.2.2.2.1) hi_12 dX7_count_110 ?_
        refine lv_i2l hx hb dX7_count_111 rfl ?_
        refine lv_goto (tgt := 116) hx hb dX7_count_112 (by decide) ?_
        exact r_lret hx hb hr hlocks hw hp dX7_count_116
    replace hp := hp.2 hc_9
    by_cases hc_13 : p2 = (1 : Int32)
    · replace hp := hp.1 hc_13
      refine lv_tableIn (off := 80) (tgt := 117) hx hb dX7_count_37 (by rw [hc_13]; decide) (by rw [hc_13]; decide) (by rw [hc_13]; rfl) (by decide) ?_
      refine lv_aload_n hx hb dX7_count_117 rfl (lv_at hl 0 rfl) ?_
      refine gf_X7_23 hx hb hts hown hw (h0.1) dX7_count_118 ?_
      refine lv_iload_n hx hb dX7_count_121 rfl (lv_at hl 1 rfl) ?_
      obtain ⟨hi_14, hp⟩ := hp
      refine r_iald hx hb hw (h0.2.2.2.2.2.1) hi_14 dX7_count_122 ?_
      refine lv_i2l hx hb dX7_count_123 rfl ?_
      exact r_lret hx hb hr hlocks hw hp dX7_count_124
    replace hp := hp.2 hc_13
    by_cases hc_15 : p2 = (2 : Int32)
    · replace hp := hp.1 hc_15
      refine lv_tableIn (off := 88) (tgt := 125) hx hb dX7_count_37 (by rw [hc_15]; decide) (by rw [hc_15]; decide) (by rw [hc_15]; rfl) (by decide) ?_
      refine lv_aload_n hx hb dX7_count_125 rfl (lv_at hl 0 rfl) ?_
      refine gf_X7_47 hx hb hts hown hw (h0.1) dX7_count_126 ?_
      refine lv_iload_n hx hb dX7_count_129 rfl (lv_at hl 1 rfl) ?_
      obtain ⟨hi_16, hp⟩ := hp
      refine r_iald hx hb hw (h0.2.2.2.2.2.2.2.2.2.2.2.2.2.1) hi_16 dX7_count_130 ?_
      refine lv_i2l hx hb dX7_count_131 rfl ?_
      exact r_lret hx hb hr hlocks hw hp dX7_count_132
    replace hp := hp.2 hc_15
    by_cases hc_17 : p2 = (3 : Int32)
    · replace hp := hp.1 hc_17
      refine lv_tableIn (off := 96) (tgt := 133) hx hb dX7_count_37 (by rw [hc_17]; decide) (by rw [hc_17]; decide) (by rw [hc_17]; rfl) (by decide) ?_
      refine lv_aload_n hx hb dX7_count_133 rfl (lv_at hl 0 rfl) ?_
      refine gf_X7_59 hx hb hts hown hw (h0.1) dX7_count_134 ?_
      refine lv_iload_n hx hb dX7_count_137 rfl (lv_at hl 1 rfl) ?_
      obtain ⟨hi_18, hp⟩ := hp
      refine r_iald hx hb hw (h0.2.2.2.2.2.2.2.2.2.2.2.2.2.2.2.2.2.1) hi_18 dX7_count_138 ?_
      refine lv_i2l hx hb dX7_count_139 rfl ?_
      exact r_lret hx hb hr hlocks hw hp dX7_count_140
    replace hp := hp.2 hc_17
    by_cases hc_19 : p2 = (4 : Int32)
    · replace hp := hp.1 hc_19
      refine lv_tableIn (off := 104) (tgt := 141) hx hb dX7_count_37 (by rw [hc_19]; decide) (by rw [hc_19]; decide) (by rw [hc_19]; rfl) (by decide) ?_
      refine lv_aload_n hx hb dX7_count_141 rfl (lv_at hl 0 rfl) ?_
      refine gf_X7_50 hx hb hts hown hw (h0.1) dX7_count_142 ?_
      refine lv_iload_n hx hb dX7_count_145 rfl (lv_at hl 1 rfl) ?_
      obtain ⟨hi_20, hp⟩ := hp
      refine r_zald hx hb hw (h0.2.2.2.2.2.2.2.2.2.2.2.2.2.2.1) hi_20 dX7_count_146 ?_
      refine lv_if_eq (tgt := 154) hx hb dX7_count_147 (by decide) (fun hc_21 => ?_) (fun hc_21 => ?_)
      · replace hp := hp.1 hc_21
        refine lv_lconst (v := 0) hx hb dX7_count_154 (by decide) ?_
        exact r_lret hx hb hr hlocks hw hp dX7_count_155
      · replace hp := hp.2 hc_21
        refine lv_lconst (v := 1) hx hb dX7_count_150 (by decide) ?_
        refine lv_goto (tgt := 155) hx hb dX7_count_151 (by decide) ?_
        exact r_lret hx hb hr hlocks hw hp dX7_count_155
    replace hp := hp.2 hc_19
    by_cases hc_22 : p2 = (5 : Int32)
    · replace hp := hp.1 hc_22
      refine lv_tableIn (off := 119) (tgt := 156) hx hb dX7_count_37 (by rw [hc_22]; decide) (by rw [hc_22]; decide) (by rw [hc_22]; rfl) (by decide) ?_
      refine lv_aload_n hx hb dX7_count_156 rfl (lv_at hl 0 rfl) ?_
      refine gf_X7_13 hx hb hts hown hw (h0.1) dX7_count_157 ?_
      refine lv_iload_n hx hb dX7_count_160 rfl (lv_at hl 1 rfl) ?_
      obtain ⟨hi_23, hp⟩ := hp
      refine r_iald hx hb hw (h0.2.2.1) hi_23 dX7_count_161 ?_
      refine lv_i2l hx hb dX7_count_162 rfl ?_
      exact r_lret hx hb hr hlocks hw hp dX7_count_163
    replace hp := hp.2 hc_22
    by_cases hc_24 : p2 = (6 : Int32)
    · replace hp := hp.1 hc_24
      refine lv_tableIn (off := 127) (tgt := 164) hx hb dX7_count_37 (by rw [hc_24]; decide) (by rw [hc_24]; decide) (by rw [hc_24]; rfl) (by decide) ?_
      refine lv_aload_n hx hb dX7_count_164 rfl (lv_at hl 0 rfl) ?_
      refine gf_X7_83 hx hb hts hown hw (h0.1) dX7_count_165 ?_
      refine lv_iload_n hx hb dX7_count_168 rfl (lv_at hl 1 rfl) ?_
      obtain ⟨hi_25, hp⟩ := hp
      refine r_iald hx hb hw (h0.2.2.2.2.2.2.2.2.2.2.2.2.2.2.2.2.2.2.2.2.2.2.2.2.2.1) hi_25 dX7_count_169 ?_
      refine lv_i2l hx hb dX7_count_170 rfl ?_
      exact r_lret hx hb hr hlocks hw hp dX7_count_171
    replace hp := hp.2 hc_24
    by_cases hc_26 : p2 = (7 : Int32)
    · replace hp := hp.1 hc_26
      refine lv_tableIn (off := 135) (tgt := 172) hx hb dX7_count_37 (by rw [hc_26]; decide) (by rw [hc_26]; decide) (by rw [hc_26]; rfl) (by decide) ?_
      refine lv_aload_n hx hb dX7_count_172 rfl (lv_at hl 0 rfl) ?_
      refine gf_X7_96 hx hb hts hown hw (h0.1) dX7_count_173 ?_
      refine lv_iload_n hx hb dX7_count_176 rfl (lv_at hl 1 rfl) ?_
      obtain ⟨hi_27, hp⟩ := hp
      refine r_lald hx hb hw (h0.2.2.2.2.2.2.2.2.2.2.2.2.2.2.2.2.2.2.2.2.2.2.2.2.2.2.2.2.2.1) hi_27 dX7_count_177 ?_
      exact r_lret hx hb hr hlocks hw hp dX7_count_178
    replace hp := hp.2 hc_26
    by_cases hc_28 : p2 = (8 : Int32)
    · replace hp := hp.1 hc_28
      refine lv_tableIn (off := 142) (tgt := 179) hx hb dX7_count_37 (by rw [hc_28]; decide) (by rw [hc_28]; decide) (by rw [hc_28]; rfl) (by decide) ?_
      refine lv_aload_n hx hb dX7_count_179 rfl (lv_at hl 0 rfl) ?_
      refine gf_X7_99 hx hb hts hown hw (h0.1) dX7_count_180 ?_
      refine lv_iload_n hx hb dX7_count_183 rfl (lv_at hl 1 rfl) ?_
      obtain ⟨hi_29, hp⟩ := hp
      refine r_lald hx hb hw (h0.2.2.2.2.2.2.2.2.2.2.2.2.2.2.2.2.2.2.2.2.2.2.2.2.2.2.2.2.2.2.1) hi_29 dX7_count_184 ?_
      refine lv_aload_n hx hb dX7_count_185 rfl (lv_at hl 0 rfl) ?_
      refine gf_X7_96 hx hb hts hown hw (h0.1) dX7_count_186 ?_
      refine lv_iload_n hx hb dX7_count_189 rfl (lv_at hl 1 rfl) ?_
      obtain ⟨hi_30, hp⟩ := hp
      refine r_lald hx hb hw (h0.2.2.2.2.2.2.2.2.2.2.2.2.2.2.2.2.2.2.2.2.2.2.2.2.2.2.2.2.2.1) hi_30 dX7_count_190 ?_
      refine lv_lsub hx hb dX7_count_191 ?_
      exact r_lret hx hb hr hlocks hw hp dX7_count_192
    replace hp := hp.2 hc_28
    by_cases hc_31 : p2 = (9 : Int32)
    · replace hp := hp.1 hc_31
      refine lv_tableIn (off := 156) (tgt := 193) hx hb dX7_count_37 (by rw [hc_31]; decide) (by rw [hc_31]; decide) (by rw [hc_31]; rfl) (by decide) ?_
      refine lv_aload_n hx hb dX7_count_193 rfl (lv_at hl 0 rfl) ?_
      refine gf_X7_80 hx hb hts hown hw (h0.1) dX7_count_194 ?_
      refine lv_iload_n hx hb dX7_count_197 rfl (lv_at hl 1 rfl) ?_
      obtain ⟨hi_32, hp⟩ := hp
      refine r_iald hx hb hw (h0.2.2.2.2.2.2.2.2.2.2.2.2.2.2.2.2.2.2.2.2.2.2.2.2.1) hi_32 dX7_count_198 ?_
      refine lv_i2l hx hb dX7_count_199 rfl ?_
      exact r_lret hx hb hr hlocks hw hp dX7_count_200
    replace hp := hp.2 hc_31
    by_cases hc_33 : p2 = (10 : Int32)
    · replace hp := hp.1 hc_33
      refine lv_tableIn (off := 164) (tgt := 201) hx hb dX7_count_37 (by rw [hc_33]; decide) (by rw [hc_33]; decide) (by rw [hc_33]; rfl) (by decide) ?_
      refine lv_aload_n hx hb dX7_count_201 rfl (lv_at hl 0 rfl) ?_
      refine gf_X7_102 hx hb hts hown hw (h0.1) dX7_count_202 ?_
      refine lv_iload_n hx hb dX7_count_205 rfl (lv_at hl 1 rfl) ?_
      obtain ⟨hi_34, hp⟩ := hp
      refine r_iald hx hb hw (h0.2.2.2.2.2.2.2.2.2.2.2.2.2.2.2.2.2.2.2.2.2.2.2.2.2.2.2.2.2.2.2.1) hi_34 dX7_count_206 ?_
      refine lv_i2l hx hb dX7_count_207 rfl ?_
      exact r_lret hx hb hr hlocks hw hp dX7_count_208
    replace hp := hp.2 hc_33
    refine lv_tableOut (tgt := 209) hx hb dX7_count_37 (by have q0 := lv_neT (a := 0) hc_9 rfl; have q1 := lv_neT (a := 1) hc_13 rfl; have q2 := lv_neT (a := 2) hc_15 rfl; have q3 := lv_neT (a := 3) hc_17 rfl; have q4 := lv_neT (a := 4) hc_19 rfl; have q5 := lv_neT (a := 5) hc_22 rfl; have q6 := lv_neT (a := 6) hc_24 rfl; have q7 := lv_neT (a := 7) hc_26 rfl; have q8 := lv_neT (a := 8) hc_28 rfl; have q9 := lv_neT (a := 9) hc_31 rfl; have q10 := lv_neT (a := 10) hc_33 rfl; omega) (by decide) ?_
    refine lv_aload_n hx hb dX7_count_209 rfl (lv_at hl 0 rfl) ?_
    refine gf_X7_105 hx hb hts hown hw (h0.1) dX7_count_210 ?_
    refine lv_iload_n hx hb dX7_count_213 rfl (lv_at hl 1 rfl) ?_
    obtain ⟨hi_35, hp⟩ := hp
    refine r_lald hx hb hw (h0.2.2.2.2.2.2.2.2.2.2.2.2.2.2.2.2.2.2.2.2.2.2.2.2.2.2.2.2.2.2.2.2.1) hi_35 dX7_count_214 ?_
    exact r_lret hx hb hr hlocks hw hp dX7_count_215
  · replace hp := hp.2 hc_8
    refine lv_lconst (v := 0) hx hb dX7_count_34 (by decide) ?_
    exact r_lret hx hb hr hlocks hw hp dX7_count_35
set_option maxHeartbeats 4000000 in
set_option maxRecDepth 100000 in
theorem c_X7_count (l : Launch) (G : GX) {Sh : SH} {a0 : Nat} {p1 : Int32} {p2 : Int32} (h0 : isModel G Sh a0) {I : MI} {L : ML} {K : Int64 → MI → ML → Prop} (hp : wp_X7_count G Sh a0 p1 p2 I L K) : CtL l yX7_count (wM yX7_count cX7_count 3 (some .long)) (rmA 1 21) G Sh [.ref a0, .int p1, .int p2] I L K := by
  refine ofA (own := RX7) (by decide) rfl (Nat.le_of_ble_eq_true rfl) ?_
  intro p e s m args below meth c ls C hw hl
  obtain ⟨hx, hb, hr, hml, hown, hts, hlocks⟩ := id C
  replace hl : lv_has ls 3 [(0, .ref a0), (1, .int p1), (2, .int p2)] := hl
  unfold wp_X7_count at hp
  refine lv_aload_n hx hb dX7_count_0 rfl (lv_at hl 0 rfl) ?_
  refine lv_aload_n hx hb dX7_count_1 rfl (lv_at hl 0 rfl) ?_
  refine lv_iload_n hx hb dX7_count_2 rfl (lv_at hl 1 rfl) ?_
  refine r_cvI (As := [.int p1]) ⟨hx, hb, hml, hown, hts⟩ (c_X7_isTable l G (h0) hp) (cw_X7_121 hts ⟨Nat.le_of_ble_eq_true rfl, Nat.le_of_ble_eq_true rfl⟩) hw (hw.recv (h0.1) rfl rfl) rfl rfl hl.1 (Nat.le_of_ble_eq_true rfl) ⟨Nat.zero_le _, Nat.zero_le _⟩ dX7_count_3 (fun r_1 I_2 L_3 H locs hp hw => ?_)
  refine lv_if_eq (tgt := 19) hx hb dX7_count_6 (by decide) (fun hc_4 => ?_) (fun hc_4 => ?_)
  · replace hp := hp.1 hc_4
    refine lv_iconst (v := 1) hx hb dX7_count_19 (by decide) ?_
    refine lv_goto (tgt := 24) hx hb dX7_count_20 (by decide) ?_
    exact w_X7_count_24 C h0 ((1 : Int32)) _ _ _ _ _ hp hw (lv_sub hl [0, 1, 2] rfl)
  · replace hp := hp.2 hc_4
    refine lv_iload_n hx hb dX7_count_9 rfl (lv_at hl 2 rfl) ?_
    refine lv_if_lt (tgt := 19) hx hb dX7_count_10 (by decide) (fun hc_5 => ?_) (fun hc_5 => ?_)
    · replace hp := hp.1 hc_5
      refine lv_iconst (v := 1) hx hb dX7_count_19 (by decide) ?_
      refine lv_goto (tgt := 24) hx hb dX7_count_20 (by decide) ?_
      exact w_X7_count_24 C h0 ((1 : Int32)) _ _ _ _ _ hp hw (lv_sub hl [0, 1, 2] rfl)
    · replace hp := hp.2 hc_5
      refine lv_iload_n hx hb dX7_count_13 rfl (lv_at hl 2 rfl) ?_
      refine lv_bipush (v := 11) hx hb dX7_count_14 (by decide) ?_
      refine lv_icmp_le (tgt := 23) hx hb dX7_count_16 (by decide) (fun hc_6 => ?_) (fun hc_6 => ?_)
      · replace hp := hp.1 hc_6
        refine lv_iconst (v := 0) hx hb dX7_count_23 (by decide) ?_
        exact w_X7_count_24 C h0 ((0 : Int32)) _ _ _ _ _ hp hw (lv_sub hl [0, 1, 2] rfl)
      · replace hp := hp.2 hc_6
        refine lv_iconst (v := 1) hx hb dX7_count_19 (by decide) ?_
        refine lv_goto (tgt := 24) hx hb dX7_count_20 (by decide) ?_
        exact w_X7_count_24 C h0 ((1 : Int32)) _ _ _ _ _ hp hw (lv_sub hl [0, 1, 2] rfl)
set_option maxHeartbeats 4000000 in
set_option maxRecDepth 100000 in
theorem c_X7_end (l : Launch) (G : GX) {Sh : SH} {a0 : Nat} {p1 : Int32} (h0 : isModel G Sh a0) {I : MI} {L : ML} {K : Int32 → MI → ML → Prop} (hp : wp_X7_end G Sh a0 p1 I L K) : CtI l yX7_end (wM yX7_end cX7_end 2 (some .int)) (rmA 1 21) G Sh [.ref a0, .int p1] I L K := by
  refine ofA (own := RX7) (by decide) rfl (Nat.le_of_ble_eq_true rfl) ?_
  intro p e s m args below meth c ls C hw hl
  obtain ⟨hx, hb, hr, hml, hown, hts, hlocks⟩ := id C
  replace hl : lv_has ls 2 [(0, .ref a0), (1, .int p1)] := hl
  unfold wp_X7_end at hp
  refine lv_aload_n hx hb dX7_end_0 rfl (lv_at hl 0 rfl) ?_
  refine lv_iconst (v := 0) hx hb dX7_end_1 (by decide) ?_
  refine pf_X7_114 hx hb hts hown hw (h0.1) dX7_end_2 (fun I_1 H locs eI_1 hw => ?_)
  replace hp := hp I_1 eI_1
  refine lv_aload_n hx hb dX7_end_5 rfl (lv_at hl 0 rfl) ?_
  refine lv_iload_n hx hb dX7_end_6 rfl (lv_at hl 1 rfl) ?_
  refine r_cvI (As := [.int p1]) ⟨hx, hb, hml, hown, hts⟩ (c_X7_isTable l G (h0) hp) (cw_X7_121 hts ⟨Nat.le_of_ble_eq_true rfl, Nat.le_of_ble_eq_true rfl⟩) hw (hw.recv (h0.1) rfl rfl) rfl rfl hl.1 (Nat.le_of_ble_eq_true rfl) ⟨Nat.zero_le _, Nat.zero_le _⟩ dX7_end_7 (fun r_2 I_3 L_4 H locs hp hw => ?_)
  refine lv_if_ne (tgt := 15) hx hb dX7_end_10 (by decide) (fun hc_5 => ?_) (fun hc_5 => ?_)
  · replace hp := hp.2 hc_5
    refine lv_aload_n hx hb dX7_end_15 rfl (lv_at hl 0 rfl) ?_
    refine gf_X7_50 hx hb hts hown hw (h0.1) dX7_end_16 ?_
    refine lv_iload_n hx hb dX7_end_19 rfl (lv_at hl 1 rfl) ?_
    obtain ⟨hi_6, hp⟩ := hp
    refine r_zald hx hb hw (h0.2.2.2.2.2.2.2.2.2.2.2.2.2.2.1) hi_6 dX7_end_20 ?_
    refine lv_if_ne (tgt := 27) hx hb dX7_end_21 (by decide) (fun hc_7 => ?_) (fun hc_7 => ?_)
    · replace hp := hp.2 hc_7
      refine lv_aload_n hx hb dX7_end_27 rfl (lv_at hl 0 rfl) ?_
      refine gf_X7_50 hx hb hts hown hw (h0.1) dX7_end_28 ?_
      refine lv_iload_n hx hb dX7_end_31 rfl (lv_at hl 1 rfl) ?_
      refine lv_iconst (v := 0) hx hb dX7_end_32 (by decide) ?_
      obtain ⟨hi_8, hp⟩ := hp
      refine r_zast (y := (0 : Int32)) hx hb hw (h0.2.2.2.2.2.2.2.2.2.2.2.2.2.2.1) hi_8 rfl dX7_end_33 (fun I_9 H locs eI_9 hw => ?_)
      replace hp := hp I_9 eI_9
      refine lv_aload_n hx hb dX7_end_34 rfl (lv_at hl 0 rfl) ?_
      refine gf_X7_56 hx hb hts hown hw (h0.1) dX7_end_35 ?_
      refine lv_bipush (v := 20) hx hb dX7_end_38 (by decide) ?_
      refine lv_iload_n hx hb dX7_end_40 rfl (lv_at hl 1 rfl) ?_
      refine lv_imul hx hb dX7_end_41 ?_
      refine lv_aload_n hx hb dX7_end_42 rfl (lv_at hl 0 rfl) ?_
      refine gf_X7_47 hx hb hts hown hw (h0.1) dX7_end_43 ?_
      refine lv_iload_n hx hb dX7_end_46 rfl (lv_at hl 1 rfl) ?_
      obtain ⟨hi_10, hp⟩ := hp
      refine r_iald hx hb hw (h0.2.2.2.2.2.2.2.2.2.2.2.2.2.1) hi_10 dX7_end_47 ?_
      refine lv_iadd hx hb dX7_end_48 ?_
      refine lv_iconst (v := 1) hx hb dX7_end_49 (by decide) ?_
      refine lv_isub hx hb dX7_end_50 ?_
      refine lv_topi (fun x_11 ex_11 => ?_)
      replace hp := hp x_11 ex_11
      obtain ⟨hi_12, hp⟩ := hp
      refine r_iald hx hb hw (h0.2.2.2.2.2.2.2.2.2.2.2.2.2.2.2.2.1) hi_12 dX7_end_51 ?_
      exact r_iret hx hb hr hlocks hw hp dX7_end_52
    · replace hp := hp.1 hc_7
      refine lv_bipush (v := (-3)) hx hb dX7_end_24 (by decide) ?_
      exact r_iret hx hb hr hlocks hw hp dX7_end_26
  · replace hp := hp.1 hc_5
    refine lv_iconst (v := (-1)) hx hb dX7_end_13 (by decide) ?_
    exact r_iret hx hb hr hlocks hw hp dX7_end_14
set_option maxHeartbeats 4000000 in
set_option maxRecDepth 100000 in
theorem c_X7_in (l : Launch) (G : GX) {Sh : SH} {p0 : Int64} {p2 : Int64} {p4 : Int64}  {I : MI} {L : ML} {K : Int32 → MI → ML → Prop} (hp : wp_X7_in G Sh p0 p2 p4 I L K) : CtI l yX7_in (wM yX7_in cX7_in 6 (some .boolean)) (rmA 0 0) G Sh [.long p0, .long p2, .long p4] I L K := by
  refine ofA (own := RX7) (by decide) rfl (Nat.le_of_ble_eq_true rfl) ?_
  intro p e s m args below meth c ls C hw hl
  obtain ⟨hx, hb, hr, hml, hown, hts, hlocks⟩ := id C
  replace hl : lv_has ls 6 [(0, .long p0), (2, .long p2), (4, .long p4)] := hl
  unfold wp_X7_in at hp
  refine lv_lload_n hx hb dX7_in_0 rfl (lv_at hl 0 rfl) ?_
  refine lv_lload_n hx hb dX7_in_1 rfl (lv_at hl 1 rfl) ?_
  refine W.lcmp hx hb dX7_in_2 ?_
  refine lv_if_lt (tgt := 17) hx hb dX7_in_3 (by decide) (fun hc_1 => ?_) (fun hc_1 => ?_)
  · replace hp := hp.1 hc_1
    refine lv_iconst (v := 0) hx hb dX7_in_17 (by decide) ?_
    exact r_zret hx hb hr hlocks hw ⟨rfl, hp⟩ dX7_in_18
  · replace hp := hp.2 hc_1
    refine lv_lload_n hx hb dX7_in_6 rfl (lv_at hl 0 rfl) ?_
    refine lv_lload hx hb dX7_in_7 (lv_at hl 2 rfl) ?_
    refine W.lcmp hx hb dX7_in_9 ?_
    refine lv_if_gt (tgt := 17) hx hb dX7_in_10 (by decide) (fun hc_2 => ?_) (fun hc_2 => ?_)
    · replace hp := hp.1 hc_2
      refine lv_iconst (v := 0) hx hb dX7_in_17 (by decide) ?_
      exact r_zret hx hb hr hlocks hw ⟨rfl, hp⟩ dX7_in_18
    · replace hp := hp.2 hc_2
      refine lv_iconst (v := 1) hx hb dX7_in_13 (by decide) ?_
      refine lv_goto (tgt := 18) hx hb dX7_in_14 (by decide) ?_
      exact r_zret hx hb hr hlocks hw ⟨rfl, hp⟩ dX7_in_18
set_option maxHeartbeats 4000000 in
set_option maxRecDepth 100000 in
theorem c_X7_templateOf (l : Launch) (G : GX) {Sh : SH} {a0 : Nat} {p1 : Int32} {p2 : Int32} (h0 : isModel G Sh a0) {I : MI} {L : ML} {K : Int32 → MI → ML → Prop} (hp : wp_X7_templateOf G Sh a0 p1 p2 I L K) : CtI l yX7_templateOf (wM yX7_templateOf cX7_templateOf 4 (some .int)) (rmA 0 0) G Sh [.ref a0, .int p1, .int p2] I L K := by
  refine ofA (own := RX7) (by decide) rfl (Nat.le_of_ble_eq_true rfl) ?_
  intro p e s m args below meth c ls C hw hl
  obtain ⟨hx, hb, hr, hml, hown, hts, hlocks⟩ := id C
  replace hl : lv_has ls 4 [(0, .ref a0), (1, .int p1), (2, .int p2)] := hl
  unfold wp_X7_templateOf at hp
  refine lv_aload_n hx hb dX7_templateOf_0 rfl (lv_at hl 0 rfl) ?_
  refine gf_X7_20 hx hb hts hown hw (h0.1) dX7_templateOf_1 ?_
  refine lv_iload_n hx hb dX7_templateOf_4 rfl (lv_at hl 1 rfl) ?_
  obtain ⟨hi_1, hp⟩ := hp
  refine r_iald hx hb hw (h0.2.2.2.2.1) hi_1 dX7_templateOf_5 ?_
  refine lv_topi (fun x_2 ex_2 => ?_)
  replace hp := hp x_2 ex_2
  refine lv_istore_n (lv' := [(3, .int x_2), (0, .ref a0), (1, .int p1), (2, .int p2)]) hx hb dX7_templateOf_6 rfl hl (by decide) rfl (fun ls hl => ?_)
  refine lv_iload_n hx hb dX7_templateOf_7 rfl (lv_at hl 3 rfl) ?_
  refine lv_iload_n hx hb dX7_templateOf_8 rfl (lv_at hl 0 rfl) ?_
  refine lv_icmp_ge (tgt := 16) hx hb dX7_templateOf_9 (by decide) (fun hc_3 => ?_) (fun hc_3 => ?_)
  · replace hp := hp.1 hc_3
    refine lv_aload_n hx hb dX7_templateOf_16 rfl (lv_at hl 1 rfl) ?_
    refine gf_X7_23 hx hb hts hown hw (h0.1) dX7_templateOf_17 ?_
    refine lv_iload_n hx hb dX7_templateOf_20 rfl (lv_at hl 2 rfl) ?_
    obtain ⟨hi_4, hp⟩ := hp
    refine r_iald hx hb hw (h0.2.2.2.2.2.1) hi_4 dX7_templateOf_21 ?_
    refine lv_iload_n hx hb dX7_templateOf_22 rfl (lv_at hl 3 rfl) ?_
    refine lv_aload_n hx hb dX7_templateOf_23 rfl (lv_at hl 1 rfl) ?_
    refine gf_X7_23 hx hb hts hown hw (h0.1) dX7_templateOf_24 ?_
    refine lv_iload_n hx hb dX7_templateOf_27 rfl (lv_at hl 2 rfl) ?_
    obtain ⟨hi_5, hp⟩ := hp
    refine r_iald hx hb hw (h0.2.2.2.2.2.1) hi_5 dX7_templateOf_28 ?_
    refine lv_isub hx hb dX7_templateOf_29 ?_
    refine lv_iload_n hx hb dX7_templateOf_30 rfl (lv_at hl 0 rfl) ?_
    refine lv_aload_n hx hb dX7_templateOf_31 rfl (lv_at hl 1 rfl) ?_
    refine gf_X7_23 hx hb hts hown hw (h0.1) dX7_templateOf_32 ?_
    refine lv_iload_n hx hb dX7_templateOf_35 rfl (lv_at hl 2 rfl) ?_
    obtain ⟨hi_6, hp⟩ := hp
    refine r_iald hx hb hw (h0.2.2.2.2.2.1) hi_6 dX7_templateOf_36 ?_
    refine lv_isub hx hb dX7_templateOf_37 ?_
    obtain ⟨hz_7, hp⟩ := hp
    refine lv_irem hx hb dX7_templateOf_38 hz_7 ?_
    refine lv_iadd hx hb dX7_templateOf_39 ?_
    exact r_iret hx hb hr hlocks hw hp dX7_templateOf_40
  · replace hp := hp.2 hc_3
    refine lv_iload_n hx hb dX7_templateOf_12 rfl (lv_at hl 3 rfl) ?_
    refine lv_goto (tgt := 40) hx hb dX7_templateOf_13 (by decide) ?_
    exact r_iret hx hb hr hlocks hw hp dX7_templateOf_40
set_option maxHeartbeats 4000000 in
set_option maxRecDepth 100000 in
theorem w_X7_entry_123 {p : Program} {l : Launch} {e : Env} {s : State} {m : MethodId} {args : Array Value} {below : List Frame} {meth : Method} {c : Code} (C : Cx p s m args meth c cX7_entry (some .int) 7 RX7) {G : GX} {Sh : SH} {a0 : Nat} {p1 : Int32} {p2 : Int32} {p3 : Int32} {p4 : Int32} {K : Int32 → MI → ML → Prop} (h0 : isModel G Sh a0) : ∀ (xs0 : Int32) (I : MI) (L : ML) (H : Heap) (locs : List Loc) (ls : Array Slot), wp_X7_entry_123 G Sh a0 p1 p2 p3 p4 K xs0 I L → mW G Sh s I L H locs → lv_has ls 7 [(0, .ref a0), (1, .int p1), (2, .int p2), (3, .int p3)] → W p l e (rmA 2 47) s m args below meth c H locs 0 0 (eI below G Sh K args s) (F0 m 123 ls [.int xs0]) := by
  obtain ⟨hx, hb, hr, hml, hown, hts, hlocks⟩ := id C
  intro xs0 I L H locs ls hp hw hl
  unfold wp_X7_entry_123 at hp
  refine lv_istore (lv' := [(6, .int xs0), (0, .ref a0), (1, .int p1), (2, .int p2), (3, .int p3)]) hx hb dX7_entry_123 hl (by decide) rfl (fun ls hl => ?_)
  refine lv_aload_n hx hb dX7_entry_125 rfl (lv_at hl 1 rfl) ?_
  refine lv_iload_n hx hb dX7_entry_126 rfl (lv_at hl 2 rfl) ?_
  refine lv_iload_n hx hb dX7_entry_127 rfl (lv_at hl 3 rfl) ?_
  refine lv_iload hx hb dX7_entry_128 (lv_at hl 0 rfl) ?_
  refine lv_iadd hx hb dX7_entry_130 ?_
  refine lv_iload_n hx hb dX7_entry_131 rfl (lv_at hl 4 rfl) ?_
  refine r_cvI (As := [.int p1, .int (p2 + xs0), .int p3]) ⟨hx, hb, hml, hown, hts⟩ (c_X7_add l G (h0) hp) (cw_X7_180 hts ⟨Nat.le_of_ble_eq_true rfl, Nat.le_of_ble_eq_true rfl⟩) hw (hw.recv (h0.1) rfl rfl) rfl rfl hl.1 (Nat.le_of_ble_eq_true rfl) ⟨Nat.zero_le _, Nat.zero_le _⟩ dX7_entry_132 (fun r_34 I_35 L_36 H locs hp hw => ?_)
  exact r_iret hx hb hr hlocks hw hp dX7_entry_135
set_option maxHeartbeats 4000000 in
set_option maxRecDepth 100000 in
theorem c_X7_entry (l : Launch) (G : GX) {Sh : SH} {a0 : Nat} {p1 : Int32} {p2 : Int32} {p3 : Int32} {p4 : Int32} (h0 : isModel G Sh a0) {I : MI} {L : ML} {K : Int32 → MI → ML → Prop} (hp : wp_X7_entry G Sh a0 p1 p2 p3 p4 I L K) : CtI l yX7_entry (wM yX7_entry cX7_entry 7 (some .int)) (rmA 2 47) G Sh [.ref a0, .int p1, .int p2, .int p3, .int p4] I L K := by
  refine ofA (own := RX7) (by decide) rfl (Nat.le_of_ble_eq_true rfl) ?_
  intro p e s m args below meth c ls C hw hl
  obtain ⟨hx, hb, hr, hml, hown, hts, hlocks⟩ := id C
  replace hl : lv_has ls 7 [(0, .ref a0), (1, .int p1), (2, .int p2), (3, .int p3), (4, .int p4)] := hl
  unfold wp_X7_entry at hp
  refine lv_aload_n hx hb dX7_entry_0 rfl (lv_at hl 0 rfl) ?_
  refine lv_iconst (v := 0) hx hb dX7_entry_1 (by decide) ?_
  refine pf_X7_114 hx hb hts hown hw (h0.1) dX7_entry_2 (fun I_1 H locs eI_1 hw => ?_)
  replace hp := hp I_1 eI_1
  refine lv_aload_n hx hb dX7_entry_5 rfl (lv_at hl 0 rfl) ?_
  refine lv_iload_n hx hb dX7_entry_6 rfl (lv_at hl 1 rfl) ?_
  refine r_cvI (As := [.int p1]) ⟨hx, hb, hml, hown, hts⟩ (c_X7_isTable l G (h0) hp) (cw_X7_121 hts ⟨Nat.le_of_ble_eq_true rfl, Nat.le_of_ble_eq_true rfl⟩) hw (hw.recv (h0.1) rfl rfl) rfl rfl hl.1 (Nat.le_of_ble_eq_true rfl) ⟨Nat.zero_le _, Nat.zero_le _⟩ dX7_entry_7 (fun r_2 I_3 L_4 H locs hp hw => ?_)
  refine lv_if_ne (tgt := 15) hx hb dX7_entry_10 (by decide) (fun hc_5 => ?_) (fun hc_5 => ?_)
  · replace hp := hp.2 hc_5
    refine lv_aload_n hx hb dX7_entry_15 rfl (lv_at hl 0 rfl) ?_
    refine gf_X7_50 hx hb hts hown hw (h0.1) dX7_entry_16 ?_
    refine lv_iload_n hx hb dX7_entry_19 rfl (lv_at hl 1 rfl) ?_
    obtain ⟨hi_6, hp⟩ := hp
    refine r_zald hx hb hw (h0.2.2.2.2.2.2.2.2.2.2.2.2.2.2.1) hi_6 dX7_entry_20 ?_
    refine lv_if_ne (tgt := 27) hx hb dX7_entry_21 (by decide) (fun hc_7 => ?_) (fun hc_7 => ?_)
    · replace hp := hp.2 hc_7
      refine lv_iload_n hx hb dX7_entry_27 rfl (lv_at hl 2 rfl) ?_
      refine lv_i2l hx hb dX7_entry_28 rfl ?_
      refine lv_lconst (v := 0) hx hb dX7_entry_29 (by decide) ?_
      refine lv_ldc2 hx hb hown (hts _ k_851) dX7_entry_30 ?_
      refine r_csI (As := [.long (Int32.toInt64 p2), .long (0 : Int64), .long (100000 : Int64)]) ⟨hx, hb, hml, hown, hts⟩ (c_X7_in l G  hp) (cw_X7_149 hts ⟨Nat.le_of_ble_eq_true rfl, Nat.le_of_ble_eq_true rfl⟩) hw rfl rfl hl.1 (Nat.le_of_ble_eq_true rfl) ⟨Nat.zero_le _, Nat.zero_le _⟩ dX7_entry_33 (fun r_8 I_9 L_10 H locs hp hw => ?_)
      refine lv_if_eq (tgt := 51) hx hb dX7_entry_36 (by decide) (fun hc_11 => ?_) (fun hc_11 => ?_)
      · replace hp := hp.1 hc_11
        refine lv_bipush (v := (-2)) hx hb dX7_entry_51 (by decide) ?_
        exact r_iret hx hb hr hlocks hw hp dX7_entry_53
      · replace hp := hp.2 hc_11
        refine lv_iload_n hx hb dX7_entry_39 rfl (lv_at hl 3 rfl) ?_
        refine lv_i2l hx hb dX7_entry_40 rfl ?_
        refine lv_lconst (v := 1) hx hb dX7_entry_41 (by decide) ?_
        refine lv_ldc2 hx hb hown (hts _ k_852) dX7_entry_42 ?_
        refine r_csI (As := [.long (Int32.toInt64 p3), .long (1 : Int64), .long (8 : Int64)]) ⟨hx, hb, hml, hown, hts⟩ (c_X7_in l G  hp) (cw_X7_149 hts ⟨Nat.le_of_ble_eq_true rfl, Nat.le_of_ble_eq_true rfl⟩) hw rfl rfl hl.1 (Nat.le_of_ble_eq_true rfl) ⟨Nat.zero_le _, Nat.zero_le _⟩ dX7_entry_45 (fun r_12 I_13 L_14 H locs hp hw => ?_)
        refine lv_if_ne (tgt := 54) hx hb dX7_entry_48 (by decide) (fun hc_15 => ?_) (fun hc_15 => ?_)
        · replace hp := hp.2 hc_15
          refine lv_aload_n hx hb dX7_entry_54 rfl (lv_at hl 0 rfl) ?_
          refine lv_iload_n hx hb dX7_entry_55 rfl (lv_at hl 1 rfl) ?_
          refine r_cvI (As := [.int p1]) ⟨hx, hb, hml, hown, hts⟩ (c_X7_free l G (h0) hp) (cw_X7_167 hts ⟨Nat.le_of_ble_eq_true rfl, Nat.le_of_ble_eq_true rfl⟩) hw (hw.recv (h0.1) rfl rfl) rfl rfl hl.1 (Nat.le_of_ble_eq_true rfl) ⟨Nat.zero_le _, Nat.zero_le _⟩ dX7_entry_56 (fun r_16 I_17 L_18 H locs hp hw => ?_)
          refine lv_istore (lv' := [(5, .int r_16), (0, .ref a0), (1, .int p1), (2, .int p2), (3, .int p3), (4, .int p4)]) hx hb dX7_entry_59 hl (by decide) rfl (fun ls hl => ?_)
          refine lv_iload hx hb dX7_entry_61 (lv_at hl 0 rfl) ?_
          refine lv_iload_n hx hb dX7_entry_63 rfl (lv_at hl 4 rfl) ?_
          refine lv_iadd hx hb dX7_entry_64 ?_
          refine lv_aload_n hx hb dX7_entry_65 rfl (lv_at hl 1 rfl) ?_
          refine lv_iload_n hx hb dX7_entry_66 rfl (lv_at hl 2 rfl) ?_
          refine r_cvI (As := [.int p1]) ⟨hx, hb, hml, hown, hts⟩ (c_X7_columnsOf l G (h0) hp) (cw_X7_174 hts ⟨Nat.le_of_ble_eq_true rfl, Nat.le_of_ble_eq_true rfl⟩) hw (hw.recv (h0.1) rfl rfl) rfl rfl hl.1 (Nat.le_of_ble_eq_true rfl) ⟨Nat.zero_le _, Nat.zero_le _⟩ dX7_entry_67 (fun r_19 I_20 L_21 H locs hp hw => ?_)
          refine lv_icmp_le (tgt := 75) hx hb dX7_entry_70 (by decide) (fun hc_22 => ?_) (fun hc_22 => ?_)
          · replace hp := hp.1 hc_22
            refine lv_iload hx hb dX7_entry_75 (lv_at hl 5 rfl) ?_
            refine lv_if_eq (tgt := 84) hx hb dX7_entry_77 (by decide) (fun hc_23 => ?_) (fun hc_23 => ?_)
            · replace hp := hp.1 hc_23
              refine lv_aload_n hx hb dX7_entry_84 rfl (lv_at hl 1 rfl) ?_
              refine gf_X7_26 hx hb hts hown hw (h0.1) dX7_entry_85 ?_
              refine lv_bipush (v := 12) hx hb dX7_entry_88 (by decide) ?_
              refine lv_iload_n hx hb dX7_entry_90 rfl (lv_at hl 2 rfl) ?_
              refine lv_imul hx hb dX7_entry_91 ?_
              refine lv_aload_n hx hb dX7_entry_92 rfl (lv_at hl 1 rfl) ?_
              refine lv_iload_n hx hb dX7_entry_93 rfl (lv_at hl 2 rfl) ?_
              refine lv_iload hx hb dX7_entry_94 (lv_at hl 0 rfl) ?_
              refine r_cvI (As := [.int p1, .int r_16]) ⟨hx, hb, hml, hown, hts⟩ (c_X7_templateOf l G (h0) hp) (cw_X7_177 hts ⟨Nat.le_of_ble_eq_true rfl, Nat.le_of_ble_eq_true rfl⟩) hw (hw.recv (h0.1) rfl rfl) rfl rfl hl.1 (Nat.le_of_ble_eq_true rfl) ⟨Nat.zero_le _, Nat.zero_le _⟩ dX7_entry_96 (fun r_24 I_25 L_26 H locs hp hw => ?_)
              refine lv_iadd hx hb dX7_entry_99 ?_
              refine lv_topi (fun x_27 ex_27 => ?_)
              replace hp := hp x_27 ex_27
              obtain ⟨hi_28, hp⟩ := hp
              refine r_iald hx hb hw (h0.2.2.2.2.2.2.1) hi_28 dX7_entry_100 ?_
              refine lv_aload_n hx hb dX7_entry_101 rfl (lv_at hl 1 rfl) ?_
              refine gf_X7_29 hx hb hts hown hw (h0.1) dX7_entry_102 ?_
              refine lv_bipush (v := 12) hx hb dX7_entry_105 (by decide) ?_
              refine lv_iload_n hx hb dX7_entry_107 rfl (lv_at hl 2 rfl) ?_
              refine lv_imul hx hb dX7_entry_108 ?_
              refine lv_aload_n hx hb dX7_entry_109 rfl (lv_at hl 1 rfl) ?_
              refine lv_iload_n hx hb dX7_entry_110 rfl (lv_at hl 2 rfl) ?_
              refine lv_iload hx hb dX7_entry_111 (lv_at hl 0 rfl) ?_
              refine lv_iload_n hx hb dX7_entry_113 rfl (lv_at hl 4 rfl) ?_
              refine lv_iadd hx hb dX7_entry_114 ?_
              refine lv_iconst (v := 1) hx hb dX7_entry_115 (by decide) ?_
              refine lv_isub hx hb dX7_entry_116 ?_
              refine r_cvI (As := [.int p1, .int ((r_16 + p3) - (1 : Int32))]) ⟨hx, hb, hml, hown, hts⟩ (c_X7_templateOf l G (h0) hp) (cw_X7_177 hts ⟨Nat.le_of_ble_eq_true rfl, Nat.le_of_ble_eq_true rfl⟩) hw (hw.recv (h0.1) rfl rfl) rfl rfl hl.1 (Nat.le_of_ble_eq_true rfl) ⟨Nat.zero_le _, Nat.zero_le _⟩ dX7_entry_117 (fun r_29 I_30 L_31 H locs hp hw => ?_)
              refine lv_iadd hx hb dX7_entry_120 ?_
              refine lv_topi (fun x_32 ex_32 => ?_)
              replace hp := hp x_32 ex_32
              obtain ⟨hi_33, hp⟩ := hp
              refine r_iald hx hb hw (h0.2.2.2.2.2.2.2.1) hi_33 dX7_entry_121 ?_
              refine lv_iadd hx hb dX7_entry_122 ?_
              exact w_X7_entry_123 C h0 (((I_25 (a0 + 6) (x_27).toNatClampNeg) + (I_30 (a0 + 7) (x_32).toNatClampNeg))) _ _ _ _ _ hp hw (lv_sub hl [1, 2, 3, 4] rfl)
            · replace hp := hp.2 hc_23
              refine lv_iconst (v := 0) hx hb dX7_entry_80 (by decide) ?_
              refine lv_goto (tgt := 123) hx hb dX7_entry_81 (by decide) ?_
              exact w_X7_entry_123 C h0 ((0 : Int32)) _ _ _ _ _ hp hw (lv_sub hl [1, 2, 3, 4] rfl)
          · replace hp := hp.2 hc_22
            refine lv_iconst (v := (-1)) hx hb dX7_entry_73 (by decide) ?_
            exact r_iret hx hb hr hlocks hw hp dX7_entry_74
        · replace hp := hp.1 hc_15
          refine lv_bipush (v := (-2)) hx hb dX7_entry_51 (by decide) ?_
          exact r_iret hx hb hr hlocks hw hp dX7_entry_53
    · replace hp := hp.1 hc_7
      refine lv_bipush (v := (-3)) hx hb dX7_entry_24 (by decide) ?_
      exact r_iret hx hb hr hlocks hw hp dX7_entry_26
  · replace hp := hp.1 hc_5
    refine lv_iconst (v := (-1)) hx hb dX7_entry_13 (by decide) ?_
    exact r_iret hx hb hr hlocks hw hp dX7_entry_14
