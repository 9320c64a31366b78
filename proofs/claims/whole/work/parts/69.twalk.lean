/-! fields and calls by their links (by program, wip/whole/gen.py) -/
section GF
variable {p : Program} {l : Launch} {e : Env} {R : Room} {s : State} {m : MethodId} {args : Array Value} {below : List Frame} {meth : Method} {c : Code} {H : Heap} {locs : List Loc} {cells slots : Nat} {Q : State → Prop}
variable {cc : ByteArray} {pc : Nat} {ls : Array Slot} {rest : List Value} {a : Nat} {G : GX} {Sh : SH} {I : MI} {L : ML}
theorem gf_X6_122 (hx : p.tables.exec = Jvm.exec) (hb : c.code = cc) (hts : ∀ w ∈ wsA, w.before args s = true) (hown : s.vm.findClass RX6 = some m.cls) (hw : mW G Sh s I L H locs) (hs : Sh a = some (sLast a)) (hdg : decode cc pc = .ok (.getfield 122, 3)) (kk : W p l e R s m args below meth c H locs cells slots Q (F0 m (pc + 3) ls (.ref (a + 3) :: rest))) : W p l e R s m args below meth c H locs cells slots Q (F0 m pc ls (.ref a :: rest)) :=
  r_getN (C := RX1) (T := TX1) (N := 13) hx hb hts hown i_X1 hw hs rfl rfl 2 (by decide) (hw.nest n_144 rfl) rfl rfl hdg kk
theorem gf_X6_130 (hx : p.tables.exec = Jvm.exec) (hb : c.code = cc) (hts : ∀ w ∈ wsA, w.before args s = true) (hown : s.vm.findClass RX6 = some m.cls) (hw : mW G Sh s I L H locs) (hs : Sh a = some (sTable a)) (hdg : decode cc pc = .ok (.getfield 130, 3)) (kk : W p l e R s m args below meth c H locs cells slots Q (F0 m (pc + 3) ls (.ref (a + 6) :: rest))) : W p l e R s m args below meth c H locs cells slots Q (F0 m pc ls (.ref a :: rest)) :=
  r_getN (C := RX5) (T := TX5) (N := 9) hx hb hts hown i_X5 hw hs rfl rfl 2 (by decide) (hw.nest n_246 rfl) rfl rfl hdg kk
theorem gf_X6_134 (hx : p.tables.exec = Jvm.exec) (hb : c.code = cc) (hts : ∀ w ∈ wsA, w.before args s = true) (hown : s.vm.findClass RX6 = some m.cls) (hw : mW G Sh s I L H locs) (hs : Sh a = some (sRow a)) (hdg : decode cc pc = .ok (.getfield 134, 3)) (kk : W p l e R s m args below meth c H locs cells slots Q (F0 m (pc + 3) ls (.ref (a + 1) :: rest))) : W p l e R s m args below meth c H locs cells slots Q (F0 m pc ls (.ref a :: rest)) :=
  r_getN (C := RX4) (T := TX4) (N := 5) hx hb hts hown i_X4 hw hs rfl rfl 0 (by decide) (hw.nest n_215 rfl) rfl rfl hdg kk
theorem gf_X6_137 (hx : p.tables.exec = Jvm.exec) (hb : c.code = cc) (hts : ∀ w ∈ wsA, w.before args s = true) (hown : s.vm.findClass RX6 = some m.cls) (hw : mW G Sh s I L H locs) (hs : Sh a = some (sRow a)) (hdg : decode cc pc = .ok (.getfield 137, 3)) (kk : W p l e R s m args below meth c H locs cells slots Q (F0 m (pc + 3) ls (.ref (a + 2) :: rest))) : W p l e R s m args below meth c H locs cells slots Q (F0 m pc ls (.ref a :: rest)) :=
  r_getN (C := RX4) (T := TX4) (N := 5) hx hb hts hown i_X4 hw hs rfl rfl 1 (by decide) (hw.nest n_218 rfl) rfl rfl hdg kk
theorem gf_X6_140 (hx : p.tables.exec = Jvm.exec) (hb : c.code = cc) (hts : ∀ w ∈ wsA, w.before args s = true) (hown : s.vm.findClass RX6 = some m.cls) (hw : mW G Sh s I L H locs) (hs : Sh a = some (sRow a)) (hdg : decode cc pc = .ok (.getfield 140, 3)) (kk : W p l e R s m args below meth c H locs cells slots Q (F0 m (pc + 3) ls (.ref (a + 3) :: rest))) : W p l e R s m args below meth c H locs cells slots Q (F0 m pc ls (.ref a :: rest)) :=
  r_getN (C := RX4) (T := TX4) (N := 5) hx hb hts hown i_X4 hw hs rfl rfl 2 (by decide) (hw.nest n_221 rfl) rfl rfl hdg kk
theorem gf_X6_150 (hx : p.tables.exec = Jvm.exec) (hb : c.code = cc) (hts : ∀ w ∈ wsA, w.before args s = true) (hown : s.vm.findClass RX6 = some m.cls) (hw : mW G Sh s I L H locs) (hs : Sh a = some (sTable a)) (hdg : decode cc pc = .ok (.getfield 150, 3)) (kk : W p l e R s m args below meth c H locs cells slots Q (F0 m (pc + 3) ls (.int (I a 7) :: rest))) : W p l e R s m args below meth c H locs cells slots Q (F0 m pc ls (.ref a :: rest)) :=
  r_getN (C := RX5) (T := TX5) (N := 9) hx hb hts hown i_X5 hw hs rfl rfl 7 (by decide) (hw.nest n_255 rfl) rfl rfl hdg kk
theorem gf_X6_153 (hx : p.tables.exec = Jvm.exec) (hb : c.code = cc) (hts : ∀ w ∈ wsA, w.before args s = true) (hown : s.vm.findClass RX6 = some m.cls) (hw : mW G Sh s I L H locs) (hs : Sh a = some (sTable a)) (hdg : decode cc pc = .ok (.getfield 153, 3)) (kk : W p l e R s m args below meth c H locs cells slots Q (F0 m (pc + 3) ls (.ref (a + 7) :: rest))) : W p l e R s m args below meth c H locs cells slots Q (F0 m pc ls (.ref a :: rest)) :=
  r_getN (C := RX5) (T := TX5) (N := 9) hx hb hts hown i_X5 hw hs rfl rfl 3 (by decide) (hw.nest n_248 rfl) rfl rfl hdg kk
end GF
section CW
variable {R : Room} {s : State} {args : Array Value}
theorem cw_X6_126 (hts : ∀ w ∈ wsA, w.before args s = true) (hR : 1 + 1 ≤ R.frames ∧ 8 + (3 + 11) + 22 ≤ R.locals) : CallW R s args RX6 RX5 126 yX5_hasEntry cX5_hasEntry 3 (some .boolean) (wM yX5_hasEntry cX5_hasEntry 3 (some .boolean)) (rmA 1 22) 0 0 2 :=
  cwV 2 hts (lk_V k_623 k_624 k_625 k_37 k_626) rfl rfl rfl (by decide +kernel) hR
theorem cw_X6_143 (hts : ∀ w ∈ wsA, w.before args s = true) (hR : 2 + 1 ≤ R.frames ∧ 8 + (3 + 11) + 43 ≤ R.locals) : CallW R s args RX6 RX1 143 yX1_boxPlace cX1_boxPlace 3 (some .long) (wM yX1_boxPlace cX1_boxPlace 3 (some .long)) (rmA 2 43) 0 0 2 :=
  cwV 2 hts (lk_V k_627 k_628 k_629 k_39 k_630) rfl rfl rfl (by decide +kernel) hR
theorem cw_X6_147 (hts : ∀ w ∈ wsA, w.before args s = true) (hR : 2 + 1 ≤ R.frames ∧ 8 + (4 + 11) + 43 ≤ R.locals) : CallW R s args RX6 RX1 147 yX1_boxWidth cX1_boxWidth 4 (some .long) (wM yX1_boxWidth cX1_boxWidth 4 (some .long)) (rmA 2 43) 0 0 2 :=
  cwV 2 hts (lk_V k_632 k_633 k_634 k_39 k_635) rfl rfl rfl (by decide +kernel) hR
theorem cw_X6_156 (hts : ∀ w ∈ wsA, w.before args s = true) (hR : 1 + 1 ≤ R.frames ∧ 8 + (2 + 11) + 22 ≤ R.locals) : CallW R s args RX6 RX5 156 yX5_tell cX5_tell 2 (some .long) (wM yX5_tell cX5_tell 2 (some .long)) (rmA 1 22) 0 0 1 :=
  cwV 1 hts (lk_V k_650 k_651 k_652 k_37 k_653) rfl rfl rfl (by decide +kernel) hR
theorem cw_X6_160 (hts : ∀ w ∈ wsA, w.before args s = true) (hR : 0 + 1 ≤ R.frames ∧ 8 + (2 + 11) + 0 ≤ R.locals) : CallW R s args RX6 RX1 160 yX1_tell cX1_tell 2 (some .long) (wM yX1_tell cX1_tell 2 (some .long)) (rmA 0 0) 0 0 1 :=
  cwV 1 hts (lk_V k_658 k_659 k_660 k_39 k_661) rfl rfl rfl (by decide +kernel) hR
end CW
section CWX
variable {R : Room} {s : State} {args : Array Value}
theorem cw_L_7 (hts : ∀ w ∈ wsA, w.before args s = true) (hR : 7 + 1 ≤ R.frames ∧ 8 + (4 + 11) + 110 ≤ R.locals) : CallW R s args RL RX6 7 yX6_place cX6_place 4 (some .long) (wM yX6_place cX6_place 4 (some .long)) (rmB 7 1 6 110) 1 6 2 :=
  cwV 2 hts (lk_V k_598 k_599 k_600 k_35 k_601) rfl rfl rfl (by decide +kernel) hR
theorem cw_L_90 (hts : ∀ w ∈ wsA, w.before args s = true) (hR : 8 + 1 ≤ R.frames ∧ 8 + (5 + 11) + 133 ≤ R.locals) : vx_CSW R s args RL 90 yL_place cL_place 5 (some .int) [(0, 9, 12, 13)] (wMH yL_place cL_place 5 (some .int) [(0, 9, 12, 13)]) (rmB 8 1 6 133) 1 6 4 :=
  vx_cwSW 4 hts (lk_H k_521 k_522 k_34 k_523) rfl rfl rfl (by decide +kernel) hR
theorem cw_L_15 (hts : ∀ w ∈ wsA, w.before args s = true) (hR : 7 + 1 ≤ R.frames ∧ 8 + (7 + 11) + 110 ≤ R.locals) : CallW R s args RL RX6 15 yX6_at cX6_at 7 (some .long) (wM yX6_at cX6_at 7 (some .long)) (rmB 7 1 6 110) 1 6 4 :=
  cwV 4 hts (lk_V k_619 k_620 k_621 k_35 k_622) rfl rfl rfl (by decide +kernel) hR
theorem cw_L_99 (hts : ∀ w ∈ wsA, w.before args s = true) (hR : 8 + 1 ≤ R.frames ∧ 8 + (7 + 11) + 136 ≤ R.locals) : vx_CSW R s args RL 99 yL_at cL_at 7 (some .int) [(0, 13, 16, 13)] (wMH yL_at cL_at 7 (some .int) [(0, 13, 16, 13)]) (rmB 8 1 6 136) 1 6 6 :=
  vx_cwSW 6 hts (lk_H k_616 k_617 k_34 k_618) rfl rfl rfl (by decide +kernel) hR
theorem cw_L_19 (hts : ∀ w ∈ wsA, w.before args s = true) (hR : 7 + 1 ≤ R.frames ∧ 8 + (4 + 11) + 110 ≤ R.locals) : CallW R s args RL RX6 19 yX6_item cX6_item 4 (some .int) (wM yX6_item cX6_item 4 (some .int)) (rmB 7 1 6 110) 1 6 2 :=
  cwV 2 hts (lk_V k_639 k_640 k_641 k_35 k_642) rfl rfl rfl (by decide +kernel) hR
theorem cw_L_103 (hts : ∀ w ∈ wsA, w.before args s = true) (hR : 8 + 1 ≤ R.frames ∧ 8 + (5 + 11) + 133 ≤ R.locals) : vx_CSW R s args RL 103 yL_item cL_item 5 (some .int) [(0, 10, 13, 13)] (wMH yL_item cL_item 5 (some .int) [(0, 10, 13, 13)]) (rmB 8 1 6 133) 1 6 4 :=
  vx_cwSW 4 hts (lk_H k_636 k_637 k_34 k_638) rfl rfl rfl (by decide +kernel) hR
theorem cw_L_23 (hts : ∀ w ∈ wsA, w.before args s = true) (hR : 7 + 1 ≤ R.frames ∧ 8 + (4 + 11) + 110 ≤ R.locals) : CallW R s args RL RX6 23 yX6_count cX6_count 4 (some .long) (wM yX6_count cX6_count 4 (some .long)) (rmB 7 1 6 110) 1 6 2 :=
  cwV 2 hts (lk_V k_646 k_647 k_648 k_35 k_649) rfl rfl rfl (by decide +kernel) hR
theorem cw_L_106 (hts : ∀ w ∈ wsA, w.before args s = true) (hR : 8 + 1 ≤ R.frames ∧ 8 + (5 + 11) + 133 ≤ R.locals) : vx_CSW R s args RL 106 yL_count cL_count 5 (some .int) [(0, 9, 12, 13)] (wMH yL_count cL_count 5 (some .int) [(0, 9, 12, 13)]) (rmB 8 1 6 133) 1 6 4 :=
  vx_cwSW 4 hts (lk_H k_643 k_644 k_34 k_645) rfl rfl rfl (by decide +kernel) hR
end CWX
set_option maxHeartbeats 4000000 in
set_option maxRecDepth 100000 in
theorem c_X6_place (l : Launch) (hST : l.stackTraces = false) (G : GX) {Sh : SH} {a0 : Nat} {F : Nat → Option Nat} {p1 : Int32} {p2 : Int32} (h0 : isX G Sh a0 F) {I : MI} {L : ML} {K : Int64 → MI → ML → Prop} {Kx : MI → ML → Prop} (hp : wp_X6_place G Sh a0 F p1 p2 I L K Kx) : CtLX l yX6_place (wM yX6_place cX6_place 4 (some .long)) (rmB 7 1 6 110) G Sh [.ref a0, .int p1, .int p2] I L K Kx := by
  refine ofX (own := RX6) (by decide) rfl (Nat.le_of_ble_eq_true rfl) ?_
  intro p e s m args below meth c ls C htb hE hw hl
  obtain ⟨hx, hb, hr, hml, hown, hts, hlocks⟩ := id C
  replace hl : lv_has ls 4 [(0, .ref a0), (1, .int p1), (2, .int p2)] := hl
  unfold wp_X6_place at hp
  refine lv_aload_n hx hb dX6_place_0 rfl (lv_at hl 0 rfl) ?_
  refine lv_iload_n hx hb dX6_place_1 rfl (lv_at hl 1 rfl) ?_
  refine r_cvQ (As := [.int p1]) ⟨hx, hb, hml, hown, hts⟩ (c_X6_find l G (h0) hp) (cw_X6_20 hts ⟨Nat.le_of_ble_eq_true rfl, Nat.le_of_ble_eq_true rfl⟩) hw (hw.recv (h0.1) rfl rfl) rfl rfl hl.1 (Nat.le_of_ble_eq_true rfl) ⟨Nat.zero_le _, Nat.zero_le _⟩ dX6_place_2 (fun r_1 I_2 L_3 H locs hp hw => ?_)
  rcases hp with ⟨rfl, hp⟩ | ⟨t_4, rfl, ht_4, hp⟩
  · refine lv_astore_nN (lv' := [(3, .null), (0, .ref a0), (1, .int p1), (2, .int p2)]) hx hb dX6_place_5 rfl hl (by decide) rfl (fun ls hl => ?_)
    refine lv_aload_nN hx hb dX6_place_6 rfl (lv_at hl 0 rfl) ?_
    refine lv_ifnullN (tgt := 21) hx hb dX6_place_7 (by decide) ?_
    exact r_thr hx hb hST hown hts hE htb hw (hl.1.trans hml.symm) hlocks (show 7 ≤ _ from Nat.le_of_ble_eq_true rfl) (Nat.le_of_ble_eq_true rfl) (Nat.le_of_ble_eq_true rfl) (Nat.le_of_ble_eq_true rfl) hp dX6_place_21 dX6_place_24 dX6_place_25 dX6_place_28
  · refine lv_astore_n (lv' := [(3, .ref t_4), (0, .ref a0), (1, .int p1), (2, .int p2)]) hx hb dX6_place_5 rfl hl (by decide) rfl (fun ls hl => ?_)
    refine lv_aload_n hx hb dX6_place_6 rfl (lv_at hl 0 rfl) ?_
    refine lv_ifnull hx hb dX6_place_7 ?_
    refine lv_aload_n hx hb dX6_place_10 rfl (lv_at hl 0 rfl) ?_
    refine gf_X6_72 hx hb hts hown hw (ht_4.1) dX6_place_11 ?_
    refine lv_iload_n hx hb dX6_place_14 rfl (lv_at hl 3 rfl) ?_
    refine r_cvI (As := [.int p2]) ⟨hx, hb, hml, hown, hts⟩ (c_X1_hasColumn l G (ht_4.2.2.2.2.2.1) hp) (cw_X6_107 hts ⟨Nat.le_of_ble_eq_true rfl, Nat.le_of_ble_eq_true rfl⟩) hw (hw.recv (ht_4.2.2.2.2.2.1.1) rfl rfl) rfl rfl hl.1 (Nat.le_of_ble_eq_true rfl) ⟨Nat.zero_le _, Nat.zero_le _⟩ dX6_place_15 (fun r_5 I_6 L_7 H locs hp hw => ?_)
    refine lv_if_ne (tgt := 29) hx hb dX6_place_18 (by decide) (fun hc_8 => ?_) (fun hc_8 => ?_)
    · replace hp := hp.2 hc_8
      refine lv_aload_n hx hb dX6_place_29 rfl (lv_at hl 0 rfl) ?_
      refine gf_X6_72 hx hb hts hown hw (ht_4.1) dX6_place_30 ?_
      refine gf_X6_122 hx hb hts hown hw (ht_4.2.2.2.2.2.1.1) dX6_place_33 ?_
      refine lv_iload_n hx hb dX6_place_36 rfl (lv_at hl 3 rfl) ?_
      obtain ⟨hi_9, hp⟩ := hp
      refine r_lald hx hb hw (ht_4.2.2.2.2.2.1.2.2.2.1) hi_9 dX6_place_37 ?_
      exact r_lretX hx hb hr hlocks hw hp dX6_place_38
    · replace hp := hp.1 hc_8
      exact r_thr hx hb hST hown hts hE htb hw (hl.1.trans hml.symm) hlocks (show 7 ≤ _ from Nat.le_of_ble_eq_true rfl) (Nat.le_of_ble_eq_true rfl) (Nat.le_of_ble_eq_true rfl) (Nat.le_of_ble_eq_true rfl) hp dX6_place_21 dX6_place_24 dX6_place_25 dX6_place_28
set_option maxHeartbeats 4000000 in
set_option maxRecDepth 100000 in
theorem c_X6_at (l : Launch) (hST : l.stackTraces = false) (G : GX) {Sh : SH} {a0 : Nat} {F : Nat → Option Nat} {p1 : Int32} {p2 : Int32} {p3 : Int32} {p4 : Int32} (h0 : isX G Sh a0 F) {I : MI} {L : ML} {K : Int64 → MI → ML → Prop} {Kx : MI → ML → Prop} (hp : wp_X6_at G Sh a0 F p1 p2 p3 p4 I L K Kx) : CtLX l yX6_at (wM yX6_at cX6_at 7 (some .long)) (rmB 7 1 6 110) G Sh [.ref a0, .int p1, .int p2, .int p3, .int p4] I L K Kx := by
  refine ofX (own := RX6) (by decide) rfl (Nat.le_of_ble_eq_true rfl) ?_
  intro p e s m args below meth c ls C htb hE hw hl
  obtain ⟨hx, hb, hr, hml, hown, hts, hlocks⟩ := id C
  replace hl : lv_has ls 7 [(0, .ref a0), (1, .int p1), (2, .int p2), (3, .int p3), (4, .int p4)] := hl
  unfold wp_X6_at at hp
  refine lv_aload_n hx hb dX6_at_0 rfl (lv_at hl 0 rfl) ?_
  refine lv_iload_n hx hb dX6_at_1 rfl (lv_at hl 1 rfl) ?_
  refine r_cvQ (As := [.int p1]) ⟨hx, hb, hml, hown, hts⟩ (c_X6_find l G (h0) hp) (cw_X6_20 hts ⟨Nat.le_of_ble_eq_true rfl, Nat.le_of_ble_eq_true rfl⟩) hw (hw.recv (h0.1) rfl rfl) rfl rfl hl.1 (Nat.le_of_ble_eq_true rfl) ⟨Nat.zero_le _, Nat.zero_le _⟩ dX6_at_2 (fun r_1 I_2 L_3 H locs hp hw => ?_)
  rcases hp with ⟨rfl, hp⟩ | ⟨t_4, rfl, ht_4, hp⟩
  · refine lv_astoreN (lv' := [(5, .null), (0, .ref a0), (1, .int p1), (2, .int p2), (3, .int p3), (4, .int p4)]) hx hb dX6_at_5 hl (by decide) rfl (fun ls hl => ?_)
    refine lv_aloadN hx hb dX6_at_7 (lv_at hl 0 rfl) ?_
    refine lv_ifnullN (tgt := 22) hx hb dX6_at_9 (by decide) ?_
    exact r_thr hx hb hST hown hts hE htb hw (hl.1.trans hml.symm) hlocks (show 7 ≤ _ from Nat.le_of_ble_eq_true rfl) (Nat.le_of_ble_eq_true rfl) (Nat.le_of_ble_eq_true rfl) (Nat.le_of_ble_eq_true rfl) hp dX6_at_22 dX6_at_25 dX6_at_26 dX6_at_29
  · refine lv_astore (lv' := [(5, .ref t_4), (0, .ref a0), (1, .int p1), (2, .int p2), (3, .int p3), (4, .int p4)]) hx hb dX6_at_5 hl (by decide) rfl (fun ls hl => ?_)
    refine lv_aload hx hb dX6_at_7 (lv_at hl 0 rfl) ?_
    refine lv_ifnull hx hb dX6_at_9 ?_
    refine lv_aload hx hb dX6_at_12 (lv_at hl 0 rfl) ?_
    refine lv_iload_n hx hb dX6_at_14 rfl (lv_at hl 3 rfl) ?_
    refine lv_iload_n hx hb dX6_at_15 rfl (lv_at hl 4 rfl) ?_
    refine r_cvI (As := [.int p2, .int p3]) ⟨hx, hb, hml, hown, hts⟩ (c_X5_hasEntry l G (ht_4) hp) (cw_X6_126 hts ⟨Nat.le_of_ble_eq_true rfl, Nat.le_of_ble_eq_true rfl⟩) hw (hw.recv (ht_4.1) rfl rfl) rfl rfl hl.1 (Nat.le_of_ble_eq_true rfl) ⟨Nat.zero_le _, Nat.zero_le _⟩ dX6_at_16 (fun r_5 I_6 L_7 H locs hp hw => ?_)
    refine lv_if_ne (tgt := 30) hx hb dX6_at_19 (by decide) (fun hc_8 => ?_) (fun hc_8 => ?_)
    · replace hp := hp.2 hc_8
      refine lv_aload hx hb dX6_at_30 (lv_at hl 0 rfl) ?_
      refine gf_X6_130 hx hb hts hown hw (ht_4.1) dX6_at_32 ?_
      refine lv_iload_n hx hb dX6_at_35 rfl (lv_at hl 3 rfl) ?_
      obtain ⟨hi_9, hp⟩ := hp
      refine r_aaldF hx hb hw (ht_4.2.2.2.1) rfl hi_9 (b := (t_4 + 54 + 4 * (p2).toNatClampNeg)) (if_pos (vp_lt hi_9)) dX6_at_36 ?_
      refine lv_astore (lv' := [(6, .ref (t_4 + 54 + 4 * (p2).toNatClampNeg)), (5, .ref t_4), (0, .ref a0), (1, .int p1), (2, .int p2), (3, .int p3), (4, .int p4)]) hx hb dX6_at_37 hl (by decide) rfl (fun ls hl => ?_)
      refine lv_iload hx hb dX6_at_39 (lv_at hl 6 rfl) ?_
      by_cases hc_10 : p4 = (0 : Int32)
      · replace hp := hp.1 hc_10
        refine lv_tableIn (off := 35) (tgt := 76) hx hb dX6_at_41 (by rw [hc_10]; decide) (by rw [hc_10]; decide) (by rw [hc_10]; rfl) (by decide) ?_
        refine lv_aload hx hb dX6_at_76 (lv_at hl 0 rfl) ?_
        refine gf_X6_134 hx hb hts hown hw ((ht_4.2.2.2.2.2.2.2 _ (vp_lt hi_9)).1) dX6_at_78 ?_
        refine lv_iload_n hx hb dX6_at_81 rfl (lv_at hl 5 rfl) ?_
        obtain ⟨hi_11, hp⟩ := hp
        refine r_iald hx hb hw ((ht_4.2.2.2.2.2.2.2 _ (vp_lt hi_9)).2.1) hi_11 dX6_at_82 ?_
        refine lv_i2l hx hb dX6_at_83 rfl ?_
        exact r_lretX hx hb hr hlocks hw hp dX6_at_84
      replace hp := hp.2 hc_10
      by_cases hc_12 : p4 = (1 : Int32)
      · replace hp := hp.1 hc_12
        refine lv_tableIn (off := 44) (tgt := 85) hx hb dX6_at_41 (by rw [hc_12]; decide) (by rw [hc_12]; decide) (by rw [hc_12]; rfl) (by decide) ?_
        refine lv_aload hx hb dX6_at_85 (lv_at hl 0 rfl) ?_
        refine gf_X6_137 hx hb hts hown hw ((ht_4.2.2.2.2.2.2.2 _ (vp_lt hi_9)).1) dX6_at_87 ?_
        refine lv_iload_n hx hb dX6_at_90 rfl (lv_at hl 5 rfl) ?_
        obtain ⟨hi_13, hp⟩ := hp
        refine r_iald hx hb hw ((ht_4.2.2.2.2.2.2.2 _ (vp_lt hi_9)).2.2.1) hi_13 dX6_at_91 ?_
        refine lv_i2l hx hb dX6_at_92 rfl ?_
        exact r_lretX hx hb hr hlocks hw hp dX6_at_93
      replace hp := hp.2 hc_12
      by_cases hc_14 : p4 = (2 : Int32)
      · replace hp := hp.1 hc_14
        refine lv_tableIn (off := 53) (tgt := 94) hx hb dX6_at_41 (by rw [hc_14]; decide) (by rw [hc_14]; decide) (by rw [hc_14]; rfl) (by decide) ?_
        refine lv_aload hx hb dX6_at_94 (lv_at hl 0 rfl) ?_
        refine gf_X6_140 hx hb hts hown hw ((ht_4.2.2.2.2.2.2.2 _ (vp_lt hi_9)).1) dX6_at_96 ?_
        refine lv_iload_n hx hb dX6_at_99 rfl (lv_at hl 5 rfl) ?_
        obtain ⟨hi_15, hp⟩ := hp
        refine r_iald hx hb hw ((ht_4.2.2.2.2.2.2.2 _ (vp_lt hi_9)).2.2.2) hi_15 dX6_at_100 ?_
        refine lv_i2l hx hb dX6_at_101 rfl ?_
        exact r_lretX hx hb hr hlocks hw hp dX6_at_102
      replace hp := hp.2 hc_14
      by_cases hc_16 : p4 = (3 : Int32)
      · replace hp := hp.1 hc_16
        refine lv_tableIn (off := 62) (tgt := 103) hx hb dX6_at_41 (by rw [hc_16]; decide) (by rw [hc_16]; decide) (by rw [hc_16]; rfl) (by decide) ?_
        refine lv_aload hx hb dX6_at_103 (lv_at hl 1 rfl) ?_
        refine gf_X6_72 hx hb hts hown hw (ht_4.1) dX6_at_105 ?_
        refine lv_aload hx hb dX6_at_108 (lv_at hl 0 rfl) ?_
        refine gf_X6_137 hx hb hts hown hw ((ht_4.2.2.2.2.2.2.2 _ (vp_lt hi_9)).1) dX6_at_110 ?_
        refine lv_iload_n hx hb dX6_at_113 rfl (lv_at hl 5 rfl) ?_
        obtain ⟨hi_17, hp⟩ := hp
        refine r_iald hx hb hw ((ht_4.2.2.2.2.2.2.2 _ (vp_lt hi_9)).2.2.1) hi_17 dX6_at_114 ?_
        refine lv_aload hx hb dX6_at_115 (lv_at hl 0 rfl) ?_
        refine gf_X6_140 hx hb hts hown hw ((ht_4.2.2.2.2.2.2.2 _ (vp_lt hi_9)).1) dX6_at_117 ?_
        refine lv_iload_n hx hb dX6_at_120 rfl (lv_at hl 5 rfl) ?_
        obtain ⟨hi_18, hp⟩ := hp
        refine r_iald hx hb hw ((ht_4.2.2.2.2.2.2.2 _ (vp_lt hi_9)).2.2.2) hi_18 dX6_at_121 ?_
        refine r_cvL (As := [.int (I_6 ((t_4 + 54 + 4 * (p2).toNatClampNeg) + 2) (p3).toNatClampNeg), .int (I_6 ((t_4 + 54 + 4 * (p2).toNatClampNeg) + 3) (p3).toNatClampNeg)]) ⟨hx, hb, hml, hown, hts⟩ (c_X1_boxPlace l G (ht_4.2.2.2.2.2.1) hp) (cw_X6_143 hts ⟨Nat.le_of_ble_eq_true rfl, Nat.le_of_ble_eq_true rfl⟩) hw (hw.recv (ht_4.2.2.2.2.2.1.1) rfl rfl) rfl rfl hl.1 (Nat.le_of_ble_eq_true rfl) ⟨Nat.zero_le _, Nat.zero_le _⟩ dX6_at_122 (fun r_19 I_20 L_21 H locs hp hw => ?_)
        exact r_lretX hx hb hr hlocks hw hp dX6_at_125
      replace hp := hp.2 hc_16
      by_cases hc_22 : p4 = (4 : Int32)
      · replace hp := hp.1 hc_22
        refine lv_tableIn (off := 85) (tgt := 126) hx hb dX6_at_41 (by rw [hc_22]; decide) (by rw [hc_22]; decide) (by rw [hc_22]; rfl) (by decide) ?_
        refine lv_aload hx hb dX6_at_126 (lv_at hl 1 rfl) ?_
        refine gf_X6_72 hx hb hts hown hw (ht_4.1) dX6_at_128 ?_
        refine lv_aload hx hb dX6_at_131 (lv_at hl 0 rfl) ?_
        refine gf_X6_137 hx hb hts hown hw ((ht_4.2.2.2.2.2.2.2 _ (vp_lt hi_9)).1) dX6_at_133 ?_
        refine lv_iload_n hx hb dX6_at_136 rfl (lv_at hl 5 rfl) ?_
        obtain ⟨hi_23, hp⟩ := hp
        refine r_iald hx hb hw ((ht_4.2.2.2.2.2.2.2 _ (vp_lt hi_9)).2.2.1) hi_23 dX6_at_137 ?_
        refine lv_aload hx hb dX6_at_138 (lv_at hl 0 rfl) ?_
        refine gf_X6_140 hx hb hts hown hw ((ht_4.2.2.2.2.2.2.2 _ (vp_lt hi_9)).1) dX6_at_140 ?_
        refine lv_iload_n hx hb dX6_at_143 rfl (lv_at hl 5 rfl) ?_
        obtain ⟨hi_24, hp⟩ := hp
        refine r_iald hx hb hw ((ht_4.2.2.2.2.2.2.2 _ (vp_lt hi_9)).2.2.2) hi_24 dX6_at_144 ?_
        refine r_cvL (As := [.int (I_6 ((t_4 + 54 + 4 * (p2).toNatClampNeg) + 2) (p3).toNatClampNeg), .int (I_6 ((t_4 + 54 + 4 * (p2).toNatClampNeg) + 3) (p3).toNatClampNeg)]) ⟨hx, hb, hml, hown, hts⟩ (c_X1_boxWidth l G (ht_4.2.2.2.2.2.1) hp) (cw_X6_147 hts ⟨Nat.le_of_ble_eq_true rfl, Nat.le_of_ble_eq_true rfl⟩) hw (hw.recv (ht_4.2.2.2.2.2.1.1) rfl rfl) rfl rfl hl.1 (Nat.le_of_ble_eq_true rfl) ⟨Nat.zero_le _, Nat.zero_le _⟩ dX6_at_145 (fun r_25 I_26 L_27 H locs hp hw => ?_)
        exact r_lretX hx hb hr hlocks hw hp dX6_at_148
      replace hp := hp.2 hc_22
      refine lv_tableOut (tgt := 149) hx hb dX6_at_41 (by have q0 := lv_neT (a := 0) hc_10 rfl; have q1 := lv_neT (a := 1) hc_12 rfl; have q2 := lv_neT (a := 2) hc_14 rfl; have q3 := lv_neT (a := 3) hc_16 rfl; have q4 := lv_neT (a := 4) hc_22 rfl; omega) (by decide) ?_
      exact r_thr hx hb hST hown hts hE htb hw (hl.1.trans hml.symm) hlocks (show 7 ≤ _ from Nat.le_of_ble_eq_true rfl) (Nat.le_of_ble_eq_true rfl) (Nat.le_of_ble_eq_true rfl) (Nat.le_of_ble_eq_true rfl) hp dX6_at_149 dX6_at_152 dX6_at_153 dX6_at_156
    · replace hp := hp.1 hc_8
      exact r_thr hx hb hST hown hts hE htb hw (hl.1.trans hml.symm) hlocks (show 7 ≤ _ from Nat.le_of_ble_eq_true rfl) (Nat.le_of_ble_eq_true rfl) (Nat.le_of_ble_eq_true rfl) (Nat.le_of_ble_eq_true rfl) hp dX6_at_22 dX6_at_25 dX6_at_26 dX6_at_29
set_option maxHeartbeats 4000000 in
set_option maxRecDepth 100000 in
theorem c_X6_item (l : Launch) (hST : l.stackTraces = false) (G : GX) {Sh : SH} {a0 : Nat} {F : Nat → Option Nat} {p1 : Int32} {p2 : Int32} (h0 : isX G Sh a0 F) {I : MI} {L : ML} {K : Int32 → MI → ML → Prop} {Kx : MI → ML → Prop} (hp : wp_X6_item G Sh a0 F p1 p2 I L K Kx) : CtIX l yX6_item (wM yX6_item cX6_item 4 (some .int)) (rmB 7 1 6 110) G Sh [.ref a0, .int p1, .int p2] I L K Kx := by
  refine ofX (own := RX6) (by decide) rfl (Nat.le_of_ble_eq_true rfl) ?_
  intro p e s m args below meth c ls C htb hE hw hl
  obtain ⟨hx, hb, hr, hml, hown, hts, hlocks⟩ := id C
  replace hl : lv_has ls 4 [(0, .ref a0), (1, .int p1), (2, .int p2)] := hl
  unfold wp_X6_item at hp
  refine lv_aload_n hx hb dX6_item_0 rfl (lv_at hl 0 rfl) ?_
  refine lv_iload_n hx hb dX6_item_1 rfl (lv_at hl 1 rfl) ?_
  refine r_cvQ (As := [.int p1]) ⟨hx, hb, hml, hown, hts⟩ (c_X6_find l G (h0) hp) (cw_X6_20 hts ⟨Nat.le_of_ble_eq_true rfl, Nat.le_of_ble_eq_true rfl⟩) hw (hw.recv (h0.1) rfl rfl) rfl rfl hl.1 (Nat.le_of_ble_eq_true rfl) ⟨Nat.zero_le _, Nat.zero_le _⟩ dX6_item_2 (fun r_1 I_2 L_3 H locs hp hw => ?_)
  rcases hp with ⟨rfl, hp⟩ | ⟨t_4, rfl, ht_4, hp⟩
  · refine lv_astore_nN (lv' := [(3, .null), (0, .ref a0), (1, .int p1), (2, .int p2)]) hx hb dX6_item_5 rfl hl (by decide) rfl (fun ls hl => ?_)
    refine lv_aload_nN hx hb dX6_item_6 rfl (lv_at hl 0 rfl) ?_
    refine lv_ifnullN (tgt := 24) hx hb dX6_item_7 (by decide) ?_
    exact r_thr hx hb hST hown hts hE htb hw (hl.1.trans hml.symm) hlocks (show 7 ≤ _ from Nat.le_of_ble_eq_true rfl) (Nat.le_of_ble_eq_true rfl) (Nat.le_of_ble_eq_true rfl) (Nat.le_of_ble_eq_true rfl) hp dX6_item_24 dX6_item_27 dX6_item_28 dX6_item_31
  · refine lv_astore_n (lv' := [(3, .ref t_4), (0, .ref a0), (1, .int p1), (2, .int p2)]) hx hb dX6_item_5 rfl hl (by decide) rfl (fun ls hl => ?_)
    refine lv_aload_n hx hb dX6_item_6 rfl (lv_at hl 0 rfl) ?_
    refine lv_ifnull hx hb dX6_item_7 ?_
    refine lv_iload_n hx hb dX6_item_10 rfl (lv_at hl 3 rfl) ?_
    refine lv_iconst (v := 0) hx hb dX6_item_11 (by decide) ?_
    refine lv_aload_n hx hb dX6_item_12 rfl (lv_at hl 0 rfl) ?_
    refine gf_X6_150 hx hb hts hown hw (ht_4.1) dX6_item_13 ?_
    refine lv_iconst (v := 1) hx hb dX6_item_16 (by decide) ?_
    refine lv_isub hx hb dX6_item_17 ?_
    refine r_csI (As := [.int p2, .int (0 : Int32), .int ((I_2 t_4 7) - (1 : Int32))]) ⟨hx, hb, hml, hown, hts⟩ (c_X6_isIn l G  hp) (cw_X6_42 hts ⟨Nat.le_of_ble_eq_true rfl, Nat.le_of_ble_eq_true rfl⟩) hw rfl rfl hl.1 (Nat.le_of_ble_eq_true rfl) ⟨Nat.zero_le _, Nat.zero_le _⟩ dX6_item_18 (fun r_5 I_6 L_7 H locs hp hw => ?_)
    refine lv_if_ne (tgt := 32) hx hb dX6_item_21 (by decide) (fun hc_8 => ?_) (fun hc_8 => ?_)
    · replace hp := hp.2 hc_8
      refine lv_aload_n hx hb dX6_item_32 rfl (lv_at hl 0 rfl) ?_
      refine gf_X6_153 hx hb hts hown hw (ht_4.1) dX6_item_33 ?_
      refine lv_iload_n hx hb dX6_item_36 rfl (lv_at hl 3 rfl) ?_
      obtain ⟨hi_9, hp⟩ := hp
      refine r_iald hx hb hw (ht_4.2.2.2.2.1) hi_9 dX6_item_37 ?_
      exact r_iretX hx hb hr hlocks hw hp dX6_item_38
    · replace hp := hp.1 hc_8
      exact r_thr hx hb hST hown hts hE htb hw (hl.1.trans hml.symm) hlocks (show 7 ≤ _ from Nat.le_of_ble_eq_true rfl) (Nat.le_of_ble_eq_true rfl) (Nat.le_of_ble_eq_true rfl) (Nat.le_of_ble_eq_true rfl) hp dX6_item_24 dX6_item_27 dX6_item_28 dX6_item_31
set_option maxHeartbeats 4000000 in
set_option maxRecDepth 100000 in
theorem c_X6_count (l : Launch) (hST : l.stackTraces = false) (G : GX) {Sh : SH} {a0 : Nat} {F : Nat → Option Nat} {p1 : Int32} {p2 : Int32} (h0 : isX G Sh a0 F) {I : MI} {L : ML} {K : Int64 → MI → ML → Prop} {Kx : MI → ML → Prop} (hp : wp_X6_count G Sh a0 F p1 p2 I L K Kx) : CtLX l yX6_count (wM yX6_count cX6_count 4 (some .long)) (rmB 7 1 6 110) G Sh [.ref a0, .int p1, .int p2] I L K Kx := by
  refine ofX (own := RX6) (by decide) rfl (Nat.le_of_ble_eq_true rfl) ?_
  intro p e s m args below meth c ls C htb hE hw hl
  obtain ⟨hx, hb, hr, hml, hown, hts, hlocks⟩ := id C
  replace hl : lv_has ls 4 [(0, .ref a0), (1, .int p1), (2, .int p2)] := hl
  unfold wp_X6_count at hp
  refine lv_aload_n hx hb dX6_count_0 rfl (lv_at hl 0 rfl) ?_
  refine lv_iload_n hx hb dX6_count_1 rfl (lv_at hl 1 rfl) ?_
  refine r_cvQ (As := [.int p1]) ⟨hx, hb, hml, hown, hts⟩ (c_X6_find l G (h0) hp) (cw_X6_20 hts ⟨Nat.le_of_ble_eq_true rfl, Nat.le_of_ble_eq_true rfl⟩) hw (hw.recv (h0.1) rfl rfl) rfl rfl hl.1 (Nat.le_of_ble_eq_true rfl) ⟨Nat.zero_le _, Nat.zero_le _⟩ dX6_count_2 (fun r_1 I_2 L_3 H locs hp hw => ?_)
  rcases hp with ⟨rfl, hp⟩ | ⟨t_4, rfl, ht_4, hp⟩
  · refine lv_astore_nN (lv' := [(3, .null), (0, .ref a0), (1, .int p1), (2, .int p2)]) hx hb dX6_count_5 rfl hl (by decide) rfl (fun ls hl => ?_)
    refine lv_aload_nN hx hb dX6_count_6 rfl (lv_at hl 0 rfl) ?_
    refine lv_ifnullN (tgt := 20) hx hb dX6_count_7 (by decide) ?_
    exact r_thr hx hb hST hown hts hE htb hw (hl.1.trans hml.symm) hlocks (show 7 ≤ _ from Nat.le_of_ble_eq_true rfl) (Nat.le_of_ble_eq_true rfl) (Nat.le_of_ble_eq_true rfl) (Nat.le_of_ble_eq_true rfl) hp dX6_count_20 dX6_count_23 dX6_count_24 dX6_count_27
  · refine lv_astore_n (lv' := [(3, .ref t_4), (0, .ref a0), (1, .int p1), (2, .int p2)]) hx hb dX6_count_5 rfl hl (by decide) rfl (fun ls hl => ?_)
    refine lv_aload_n hx hb dX6_count_6 rfl (lv_at hl 0 rfl) ?_
    refine lv_ifnull hx hb dX6_count_7 ?_
    refine lv_iload_n hx hb dX6_count_10 rfl (lv_at hl 3 rfl) ?_
    refine lv_iconst (v := 0) hx hb dX6_count_11 (by decide) ?_
    refine lv_bipush (v := 11) hx hb dX6_count_12 (by decide) ?_
    refine r_csI (As := [.int p2, .int (0 : Int32), .int (11 : Int32)]) ⟨hx, hb, hml, hown, hts⟩ (c_X6_isIn l G  hp) (cw_X6_42 hts ⟨Nat.le_of_ble_eq_true rfl, Nat.le_of_ble_eq_true rfl⟩) hw rfl rfl hl.1 (Nat.le_of_ble_eq_true rfl) ⟨Nat.zero_le _, Nat.zero_le _⟩ dX6_count_14 (fun r_5 I_6 L_7 H locs hp hw => ?_)
    refine lv_if_ne (tgt := 28) hx hb dX6_count_17 (by decide) (fun hc_8 => ?_) (fun hc_8 => ?_)
    · replace hp := hp.2 hc_8
      refine lv_iload_n hx hb dX6_count_28 rfl (lv_at hl 3 rfl) ?_
      refine lv_bipush (v := 6) hx hb dX6_count_29 (by decide) ?_
      refine lv_icmp_ge (tgt := 42) hx hb dX6_count_31 (by decide) (fun hc_9 => ?_) (fun hc_9 => ?_)
      · replace hp := hp.1 hc_9
        refine lv_aload_n hx hb dX6_count_42 rfl (lv_at hl 0 rfl) ?_
        refine gf_X6_72 hx hb hts hown hw (ht_4.1) dX6_count_43 ?_
        refine lv_iload_n hx hb dX6_count_46 rfl (lv_at hl 3 rfl) ?_
        refine r_cvL (As := [.int p2]) ⟨hx, hb, hml, hown, hts⟩ (c_X1_tell l G (ht_4.2.2.2.2.2.1) hp) (cw_X6_160 hts ⟨Nat.le_of_ble_eq_true rfl, Nat.le_of_ble_eq_true rfl⟩) hw (hw.recv (ht_4.2.2.2.2.2.1.1) rfl rfl) rfl rfl hl.1 (Nat.le_of_ble_eq_true rfl) ⟨Nat.zero_le _, Nat.zero_le _⟩ dX6_count_47 (fun r_10 I_11 L_12 H locs hp hw => ?_)
        exact r_lretX hx hb hr hlocks hw hp dX6_count_50
      · replace hp := hp.2 hc_9
        refine lv_aload_n hx hb dX6_count_34 rfl (lv_at hl 0 rfl) ?_
        refine lv_iload_n hx hb dX6_count_35 rfl (lv_at hl 3 rfl) ?_
        refine r_cvL (As := [.int p2]) ⟨hx, hb, hml, hown, hts⟩ (c_X5_tell l G (ht_4) hp) (cw_X6_156 hts ⟨Nat.le_of_ble_eq_true rfl, Nat.le_of_ble_eq_true rfl⟩) hw (hw.recv (ht_4.1) rfl rfl) rfl rfl hl.1 (Nat.le_of_ble_eq_true rfl) ⟨Nat.zero_le _, Nat.zero_le _⟩ dX6_count_36 (fun r_13 I_14 L_15 H locs hp hw => ?_)
        refine lv_goto (tgt := 50) hx hb dX6_count_39 (by decide) ?_
        exact r_lretX hx hb hr hlocks hw hp dX6_count_50
    · replace hp := hp.1 hc_8
      exact r_thr hx hb hST hown hts hE htb hw (hl.1.trans hml.symm) hlocks (show 7 ≤ _ from Nat.le_of_ble_eq_true rfl) (Nat.le_of_ble_eq_true rfl) (Nat.le_of_ble_eq_true rfl) (Nat.le_of_ble_eq_true rfl) hp dX6_count_20 dX6_count_23 dX6_count_24 dX6_count_27
set_option maxHeartbeats 4000000 in
set_option maxRecDepth 100000 in
theorem c_L_place (l : Launch) (hST : l.stackTraces = false) (G : GX) {Sh : SH} {a0 : Nat} {F : Nat → Option Nat} {p1 p2 : Int32} {o : Nat} (h0 : isX G Sh a0 F) (ho : Sh o = some (sJ G 1)) {I : MI} {L : ML} {K : Int32 → MI → ML → Prop} (hp : wp_X6_place G Sh a0 F p1 p2 I L (fun r I1 L1 => ∀ L2 : ML, L2 = mul L1 o (0 : Int32).toNatClampNeg r → K 0 I1 L2) (fun I1 L1 => K 1 I1 L1)) : CtIH l yL_place (wMH yL_place cL_place 5 (some .int) [(0, 9, 12, 13)]) (rmB 8 1 6 133) G Sh [.ref a0, .int p1, .int p2, .ref o] I L K := by
  refine ofH (own := RL) (by decide) rfl (Nat.le_of_ble_eq_true rfl) ?_
  intro p e s m args below meth c ls C htab hE hw hl
  obtain ⟨hx, hb, hr, hml, hown, hts, hlocks⟩ := id C
  replace hl : lv_has ls 5 [(0, .ref a0), (1, .int p1), (2, .int p2), (3, .ref o)] := hl
  refine lv_aload_n hx hb dL_place_0 rfl (lv_at hl 3 rfl) ?_
  refine lv_iconst (v := 0) hx hb dL_place_1 (by decide) ?_
  refine lv_aload_n hx hb dL_place_2 rfl (lv_at hl 0 rfl) ?_
  refine lv_iload_n hx hb dL_place_3 rfl (lv_at hl 1 rfl) ?_
  refine lv_iload_n hx hb dL_place_4 rfl (lv_at hl 2 rfl) ?_
  refine r_cvLX (As := [.int p1, .int p2]) ⟨hx, hb, hml, hown, hts⟩ (c_X6_place l hST G h0 hp) (cw_L_7 hts ⟨Nat.le_of_ble_eq_true rfl, Nat.le_of_ble_eq_true rfl⟩) hw hE (hw.recv h0.1 rfl rfl) rfl rfl hl.1 (Nat.le_of_ble_eq_true rfl) ⟨Nat.le_refl _, Nat.le_refl _⟩ dL_place_5 (fun ce q I1 L1 H locs hp hw hc hv hcl => ?_) (fun r I1 L1 H locs hp hw => ?_)
  · refine vx_catch hown [] ⟨0, 9, 12, 13⟩ [] (by rw [htab]; rfl) (fun z hz => nomatch hz) rfl (by decide) (hts _ k_524) (va_Nw.use rfl (hE.1 _ wsE_cast)) hc hv hcl ?_
    refine lv_astore (lv' := (4, .ref q) :: [(0, .ref a0), (1, .int p1), (2, .int p2), (3, .ref o)]) hx hb dL_place_12 hl (by decide) rfl (fun ls hl => ?_)
    refine lv_iconst (v := 1) hx hb dL_place_14 (by decide) ?_
    exact r_iretH hx hb hr hlocks hw hp dL_place_15
  · refine r_last hx hb hw ho (show ¬ ((0 : Int32) < 0 ∨ 1 ≤ (0 : Int32).toNatClampNeg) by decide) dL_place_8 (fun L2 H locs eL hw => ?_)
    replace hp := hp L2 eL
    refine lv_goto (tgt := 16) hx hb dL_place_9 (by decide) ?_
    refine lv_iconst (v := 0) hx hb dL_place_16 (by decide) ?_
    exact r_iretH hx hb hr hlocks hw hp dL_place_17
set_option maxHeartbeats 4000000 in
set_option maxRecDepth 100000 in
theorem c_L_at (l : Launch) (hST : l.stackTraces = false) (G : GX) {Sh : SH} {a0 : Nat} {F : Nat → Option Nat} {p1 p2 p3 p4 : Int32} {o : Nat} (h0 : isX G Sh a0 F) (ho : Sh o = some (sJ G 1)) {I : MI} {L : ML} {K : Int32 → MI → ML → Prop} (hp : wp_X6_at G Sh a0 F p1 p2 p3 p4 I L (fun r I1 L1 => ∀ L2 : ML, L2 = mul L1 o (0 : Int32).toNatClampNeg r → K 0 I1 L2) (fun I1 L1 => K 1 I1 L1)) : CtIH l yL_at (wMH yL_at cL_at 7 (some .int) [(0, 13, 16, 13)]) (rmB 8 1 6 136) G Sh [.ref a0, .int p1, .int p2, .int p3, .int p4, .ref o] I L K := by
  refine ofH (own := RL) (by decide) rfl (Nat.le_of_ble_eq_true rfl) ?_
  intro p e s m args below meth c ls C htab hE hw hl
  obtain ⟨hx, hb, hr, hml, hown, hts, hlocks⟩ := id C
  replace hl : lv_has ls 7 [(0, .ref a0), (1, .int p1), (2, .int p2), (3, .int p3), (4, .int p4), (5, .ref o)] := hl
  refine lv_aload hx hb dL_at_0 (lv_at hl 5 rfl) ?_
  refine lv_iconst (v := 0) hx hb dL_at_2 (by decide) ?_
  refine lv_aload_n hx hb dL_at_3 rfl (lv_at hl 0 rfl) ?_
  refine lv_iload_n hx hb dL_at_4 rfl (lv_at hl 1 rfl) ?_
  refine lv_iload_n hx hb dL_at_5 rfl (lv_at hl 2 rfl) ?_
  refine lv_iload_n hx hb dL_at_6 rfl (lv_at hl 3 rfl) ?_
  refine lv_iload hx hb dL_at_7 (lv_at hl 4 rfl) ?_
  refine r_cvLX (As := [.int p1, .int p2, .int p3, .int p4]) ⟨hx, hb, hml, hown, hts⟩ (c_X6_at l hST G h0 hp) (cw_L_15 hts ⟨Nat.le_of_ble_eq_true rfl, Nat.le_of_ble_eq_true rfl⟩) hw hE (hw.recv h0.1 rfl rfl) rfl rfl hl.1 (Nat.le_of_ble_eq_true rfl) ⟨Nat.le_refl _, Nat.le_refl _⟩ dL_at_9 (fun ce q I1 L1 H locs hp hw hc hv hcl => ?_) (fun r I1 L1 H locs hp hw => ?_)
  · refine vx_catch hown [] ⟨0, 13, 16, 13⟩ [] (by rw [htab]; rfl) (fun z hz => nomatch hz) rfl (by decide) (hts _ k_524) (va_Nw.use rfl (hE.1 _ wsE_cast)) hc hv hcl ?_
    refine lv_astore (lv' := (6, .ref q) :: [(0, .ref a0), (1, .int p1), (2, .int p2), (3, .int p3), (4, .int p4), (5, .ref o)]) hx hb dL_at_16 hl (by decide) rfl (fun ls hl => ?_)
    refine lv_iconst (v := 1) hx hb dL_at_18 (by decide) ?_
    exact r_iretH hx hb hr hlocks hw hp dL_at_19
  · refine r_last hx hb hw ho (show ¬ ((0 : Int32) < 0 ∨ 1 ≤ (0 : Int32).toNatClampNeg) by decide) dL_at_12 (fun L2 H locs eL hw => ?_)
    replace hp := hp L2 eL
    refine lv_goto (tgt := 20) hx hb dL_at_13 (by decide) ?_
    refine lv_iconst (v := 0) hx hb dL_at_20 (by decide) ?_
    exact r_iretH hx hb hr hlocks hw hp dL_at_21
set_option maxHeartbeats 4000000 in
set_option maxRecDepth 100000 in
theorem c_L_item (l : Launch) (hST : l.stackTraces = false) (G : GX) {Sh : SH} {a0 : Nat} {F : Nat → Option Nat} {p1 p2 : Int32} {o : Nat} (h0 : isX G Sh a0 F) (ho : Sh o = some (sJ G 1)) {I : MI} {L : ML} {K : Int32 → MI → ML → Prop} (hp : wp_X6_item G Sh a0 F p1 p2 I L (fun r I1 L1 => ∀ L2 : ML, L2 = mul L1 o (0 : Int32).toNatClampNeg (Int32.toInt64 r) → K 0 I1 L2) (fun I1 L1 => K 1 I1 L1)) : CtIH l yL_item (wMH yL_item cL_item 5 (some .int) [(0, 10, 13, 13)]) (rmB 8 1 6 133) G Sh [.ref a0, .int p1, .int p2, .ref o] I L K := by
  refine ofH (own := RL) (by decide) rfl (Nat.le_of_ble_eq_true rfl) ?_
  intro p e s m args below meth c ls C htab hE hw hl
  obtain ⟨hx, hb, hr, hml, hown, hts, hlocks⟩ := id C
  replace hl : lv_has ls 5 [(0, .ref a0), (1, .int p1), (2, .int p2), (3, .ref o)] := hl
  refine lv_aload_n hx hb dL_item_0 rfl (lv_at hl 3 rfl) ?_
  refine lv_iconst (v := 0) hx hb dL_item_1 (by decide) ?_
  refine lv_aload_n hx hb dL_item_2 rfl (lv_at hl 0 rfl) ?_
  refine lv_iload_n hx hb dL_item_3 rfl (lv_at hl 1 rfl) ?_
  refine lv_iload_n hx hb dL_item_4 rfl (lv_at hl 2 rfl) ?_
  refine r_cvIX (As := [.int p1, .int p2]) ⟨hx, hb, hml, hown, hts⟩ (c_X6_item l hST G h0 hp) (cw_L_19 hts ⟨Nat.le_of_ble_eq_true rfl, Nat.le_of_ble_eq_true rfl⟩) hw hE (hw.recv h0.1 rfl rfl) rfl rfl hl.1 (Nat.le_of_ble_eq_true rfl) ⟨Nat.le_refl _, Nat.le_refl _⟩ dL_item_5 (fun ce q I1 L1 H locs hp hw hc hv hcl => ?_) (fun r I1 L1 H locs hp hw => ?_)
  · refine vx_catch hown [] ⟨0, 10, 13, 13⟩ [] (by rw [htab]; rfl) (fun z hz => nomatch hz) rfl (by decide) (hts _ k_524) (va_Nw.use rfl (hE.1 _ wsE_cast)) hc hv hcl ?_
    refine lv_astore (lv' := (4, .ref q) :: [(0, .ref a0), (1, .int p1), (2, .int p2), (3, .ref o)]) hx hb dL_item_13 hl (by decide) rfl (fun ls hl => ?_)
    refine lv_iconst (v := 1) hx hb dL_item_15 (by decide) ?_
    exact r_iretH hx hb hr hlocks hw hp dL_item_16
  · refine lv_i2l hx hb dL_item_8 rfl ?_
    refine r_last hx hb hw ho (show ¬ ((0 : Int32) < 0 ∨ 1 ≤ (0 : Int32).toNatClampNeg) by decide) dL_item_9 (fun L2 H locs eL hw => ?_)
    replace hp := hp L2 eL
    refine lv_goto (tgt := 17) hx hb dL_item_10 (by decide) ?_
    refine lv_iconst (v := 0) hx hb dL_item_17 (by decide) ?_
    exact r_iretH hx hb hr hlocks hw hp dL_item_18
set_option maxHeartbeats 4000000 in
set_option maxRecDepth 100000 in
theorem c_L_count (l : Launch) (hST : l.stackTraces = false) (G : GX) {Sh : SH} {a0 : Nat} {F : Nat → Option Nat} {p1 p2 : Int32} {o : Nat} (h0 : isX G Sh a0 F) (ho : Sh o = some (sJ G 1)) {I : MI} {L : ML} {K : Int32 → MI → ML → Prop} (hp : wp_X6_count G Sh a0 F p1 p2 I L (fun r I1 L1 => ∀ L2 : ML, L2 = mul L1 o (0 : Int32).toNatClampNeg r → K 0 I1 L2) (fun I1 L1 => K 1 I1 L1)) : CtIH l yL_count (wMH yL_count cL_count 5 (some .int) [(0, 9, 12, 13)]) (rmB 8 1 6 133) G Sh [.ref a0, .int p1, .int p2, .ref o] I L K := by
  refine ofH (own := RL) (by decide) rfl (Nat.le_of_ble_eq_true rfl) ?_
  intro p e s m args below meth c ls C htab hE hw hl
  obtain ⟨hx, hb, hr, hml, hown, hts, hlocks⟩ := id C
  replace hl : lv_has ls 5 [(0, .ref a0), (1, .int p1), (2, .int p2), (3, .ref o)] := hl
  refine lv_aload_n hx hb dL_count_0 rfl (lv_at hl 3 rfl) ?_
  refine lv_iconst (v := 0) hx hb dL_count_1 (by decide) ?_
  refine lv_aload_n hx hb dL_count_2 rfl (lv_at hl 0 rfl) ?_
  refine lv_iload_n hx hb dL_count_3 rfl (lv_at hl 1 rfl) ?_
  refine lv_iload_n hx hb dL_count_4 rfl (lv_at hl 2 rfl) ?_
  refine r_cvLX (As := [.int p1, .int p2]) ⟨hx, hb, hml, hown, hts⟩ (c_X6_count l hST G h0 hp) (cw_L_23 hts ⟨Nat.le_of_ble_eq_true rfl, Nat.le_of_ble_eq_true rfl⟩) hw hE (hw.recv h0.1 rfl rfl) rfl rfl hl.1 (Nat.le_of_ble_eq_true rfl) ⟨Nat.le_refl _, Nat.le_refl _⟩ dL_count_5 (fun ce q I1 L1 H locs hp hw hc hv hcl => ?_) (fun r I1 L1 H locs hp hw => ?_)
  · refine vx_catch hown [] ⟨0, 9, 12, 13⟩ [] (by rw [htab]; rfl) (fun z hz => nomatch hz) rfl (by decide) (hts _ k_524) (va_Nw.use rfl (hE.1 _ wsE_cast)) hc hv hcl ?_
    refine lv_astore (lv' := (4, .ref q) :: [(0, .ref a0), (1, .int p1), (2, .int p2), (3, .ref o)]) hx hb dL_count_12 hl (by decide) rfl (fun ls hl => ?_)
    refine lv_iconst (v := 1) hx hb dL_count_14 (by decide) ?_
    exact r_iretH hx hb hr hlocks hw hp dL_count_15
  · refine r_last hx hb hw ho (show ¬ ((0 : Int32) < 0 ∨ 1 ≤ (0 : Int32).toNatClampNeg) by decide) dL_count_8 (fun L2 H locs eL hw => ?_)
    replace hp := hp L2 eL
    refine lv_goto (tgt := 16) hx hb dL_count_9 (by decide) ?_
    refine lv_iconst (v := 0) hx hb dL_count_16 (by decide) ?_
    exact r_iretH hx hb hr hlocks hw hp dL_count_17
