/-! THE LAW'S ENTRY: the world of nothing, three objects made, the loop -/
def wp_start (G : GX) (z : Nat) (K : Nat → Nat → Nat → SH → MI → ML → Prop) : Prop :=
  ∀ Sh1 : SH, Sh1 = shu (fun _ => none) z (sXK 0 z) → ∀ I1 : MI, I1 = mz (fun _ _ => 0) z → ∀ L1 : ML, L1 = mzl (fun _ _ => 0) z → wp_X6_init G (z + 1) Sh1 z I1 L1 (fun z2 Sh2 I2 L2 => Sh2 z = some (sXK 1 z) ∧
    ∀ Sh3 : SH, Sh3 = shu Sh2 z2 (sModelK 0 z2) → ∀ I3 : MI, I3 = mz I2 z2 → ∀ L3 : ML, L3 = mzl L2 z2 → wp_X7_init G (z2 + 1) Sh3 z2 I3 L3 (fun z4 Sh4 I4 L4 =>
      ∀ Sh5 : SH, Sh5 = shu Sh4 z4 (sJ G 1) → ∀ I5 : MI, I5 = mz I4 z4 → ∀ L5 : ML, L5 = mzl L4 z4 → K z z2 z4 Sh5 I5 L5))
theorem st_prim {args : Array Value} {s : State} {ty : FieldType} (h : (Cond.arrayClass ty).before args s = true) : ∃ c : ClassId, ArrOfT s c ty ∧ s.vm.findClass ("[" ++ ty.toString) = some c := by
  obtain ⟨c, k, comp, h1, h2, h3⟩ := Cond.arrayClass_spec h
  exact ⟨c, fun n z => ⟨fun k h => (by cases h), k, h2, comp, h3⟩, h1⟩
theorem st_obj {args : Array Value} {s : State} {C : String} (h : (Cond.arrayOver (.object C)).before args s = true) : ∃ c : ClassId, ArrOfT s c (.object C) ∧ va_RA s c (.object C) := by
  obtain ⟨comp, c, k, h1, -, h3, h4, h5⟩ := Cond.arrayOver_spec h
  exact ⟨c, fun n z => ⟨fun k h => (by cases h), k, h3, comp, h4⟩, k, comp, h3, h4, h1, h5⟩
theorem st_arr {args : Array Value} {s : State} (h : (Cond.arrayOver (.array .int)).before args s = true) : ∃ c : ClassId, ArrOfT s c (.array .int) ∧ s.vm.findClass ("[" ++ (FieldType.array .int).toString) = some c := by
  obtain ⟨comp, c, k, h1, -, h3, h4, h5⟩ := Jvm.Stand.arrayOver_specB h
  exact ⟨c, fun n z => ⟨fun k h => (by cases h), k, h3, comp, h4⟩, h5⟩
theorem st_J0 : ∀ w ∈ u_ws RJ0 TJ0 2, w ∈ wsA := wsA_r _ [594, 596] (by decide +kernel) (by decide +kernel)
theorem st_over {w : Cond} (hw : wOx w = true) {args : Array Value} {s : State} (h : w.before args s = true) : va_Nw w s := by
  cases w with
  | arrayOver t => exact h
  | _ => cases hw
theorem st_ls1 : Cond.laysStatic Bundle.tN "UNASSIGNED_STACK" Bundle.steD ∈ lw_tbl := by decide +kernel
theorem st_ls2 : Cond.laysStatic Bundle.tN "SUPPRESSED_SENTINEL" Bundle.listD ∈ lw_tbl := by decide +kernel
theorem st_flags {l : Launch} (h : l.flags = flags0) : l.stackTraces = false := by
  unfold Launch.stackTraces
  rw [h]
  decide +kernel
set_option maxHeartbeats 4000000 in
set_option maxRecDepth 100000 in
theorem start_open {p : Program} {e : Env} {s : State} {m : MethodId} {below : List Frame} {meth : Method} {c : Code} (l : Launch) (hflags : l.flags = flags0) {b Ln : Nat} {xs : Nat → Int32} (hL : Ln ≤ 384) (C0 : lw_At p s m meth c b Ln xs) (Rel : Nat → GX → Nat → Nat → Nat → SH → (Nat → Option Nat) → MI → ML → Prop) (hLS : ∀ i, i ≤ 64 → ∀ G x mm o, LSt G x mm o (Rel i G x mm o) (Rel (i + 1) G x mm o)) (hst : ∀ (G : GX) (z : Nat), wp_start G z (fun x mm o Sh I L => ∃ F, Rel 0 G x mm o Sh F I L)) : W p l e room_1 s m #[Value.ref b] below meth c s.heap [] 0 0 (lw_Z below #[Value.ref b] s) (entryFrame m ([Value.ref b] : List Value).toArray 8) := by
  obtain ⟨hx, hb, hr, hml, hown, htl, hX, hbl, hlocks, hgv⟩ := id C0
  have hST : l.stackTraces = false := st_flags hflags
  have hts : ∀ w ∈ wsA, w.before #[Value.ref b] s = true := fun w h => htl w (wsA_tbl w h)
  have hown2 : s.vm.findClass RL = some m.cls := hown
  obtain ⟨c0, i0, k0⟩ := u_known (C := RJ0) (T := TJ0) (N := 2) (n := 4) hts st_J0 (hts _ k_592)
  obtain ⟨c1, i1, k1⟩ := u_known (C := RJx00060) (T := TJx00060) (N := 6) (n := 6) hts i_Jx00060 (hts _ k_525)
  obtain ⟨c2, i2, k2⟩ := u_known (C := RX0) (T := TX0) (N := 5) (n := 5) hts i_X0 (hts _ k_182)
  obtain ⟨c3, i3, k3⟩ := u_known (C := RX1) (T := TX1) (N := 13) (n := 13) hts i_X1 (hts _ k_120)
  obtain ⟨c4, i4, k4⟩ := u_known (C := RX2) (T := TX2) (N := 1) (n := 1) hts i_X2 (hts _ k_126)
  obtain ⟨c5, i5, k5⟩ := u_known (C := RX3) (T := TX3) (N := 8) (n := 8) hts i_X3 (hts _ k_78)
  obtain ⟨c6, i6, k6⟩ := u_known (C := RX4) (T := TX4) (N := 5) (n := 5) hts i_X4 (hts _ k_208)
  obtain ⟨c7, i7, k7⟩ := u_known (C := RX5) (T := TX5) (N := 9) (n := 9) hts i_X5 (hts _ k_72)
  obtain ⟨c8, i8, k8⟩ := u_known (C := RX6) (T := TX6) (N := 2) (n := 2) hts i_X6 (hts _ k_52)
  obtain ⟨c9, i9, k9⟩ := u_known (C := RX7) (T := TX7) (N := 38) (n := 38) hts i_X7 (hts _ k_663)
  obtain ⟨dC, dI, hKc⟩ : ∃ (dC : Nat → ClassId) (dI : Nat → Nat → Nat), ∀ (k : Nat) (q : vw_C), vwCl[k]? = some q → u_Kn s q.1 q.2.1 q.2.2 (dC k) (dI k) := by
    refine ⟨fun k => match k with | 0 => c0 | 1 => c1 | 2 => c2 | 3 => c3 | 4 => c4 | 5 => c5 | 6 => c6 | 7 => c7 | 8 => c8 | _ => c9, fun k => match k with | 0 => i0 | 1 => i1 | 2 => i2 | 3 => i3 | 4 => i4 | 5 => i5 | 6 => i6 | 7 => i7 | 8 => i8 | _ => i9, ?_⟩
    intro k q hq
    match k, hq with
    | 0, hq => cases hq; exact k0
    | 1, hq => cases hq; exact k1
    | 2, hq => cases hq; exact k2
    | 3, hq => cases hq; exact k3
    | 4, hq => cases hq; exact k4
    | 5, hq => cases hq; exact k5
    | 6, hq => cases hq; exact k6
    | 7, hq => cases hq; exact k7
    | 8, hq => cases hq; exact k8
    | 9, hq => cases hq; exact k9
    | k + 10, hq => simp [vwCl] at hq
  obtain ⟨a0, p0, q0⟩ := st_prim (hts _ k_114)
  obtain ⟨a1, p1, q1⟩ := st_prim (hts _ k_137)
  obtain ⟨a2, p2, q2⟩ := st_prim (hts _ k_113)
  obtain ⟨a3, p3, q3⟩ := st_prim (hts _ k_138)
  obtain ⟨a4, p4, q4⟩ := st_obj (htl _ (wsO_tbl _ o_116))
  obtain ⟨a5, p5, q5⟩ := st_obj (htl _ (wsO_tbl _ o_118))
  obtain ⟨a6, p6, q6⟩ := st_obj (htl _ (wsO_tbl _ o_60))
  obtain ⟨a7, p7, q7⟩ := st_arr (htl _ (wsO_tbl _ o_132))
  obtain ⟨cy, hcy⟩ : ∃ cy : Nat → ClassId, ∀ (k : Nat) (q : ClassId × FieldType), (mtys cy)[k]? = some q → ArrOfT s q.1 q.2 ∧ va_RA s q.1 q.2 := by
    refine ⟨fun k => match k with | 0 => a0 | 1 => a1 | 2 => a2 | 3 => a3 | 4 => a4 | 5 => a5 | 6 => a6 | _ => a7, ?_⟩
    intro k q hq
    match k, hq with
    | 0, hq => cases hq; exact ⟨p0, q0⟩
    | 1, hq => cases hq; exact ⟨p1, q1⟩
    | 2, hq => cases hq; exact ⟨p2, q2⟩
    | 3, hq => cases hq; exact ⟨p3, q3⟩
    | 4, hq => cases hq; exact ⟨p4, q4⟩
    | 5, hq => cases hq; exact ⟨p5, q5⟩
    | 6, hq => cases hq; exact ⟨p6, q6⟩
    | 7, hq => cases hq; exact ⟨p7, q7⟩
    | k + 8, hq => simp [mtys] at hq
  obtain ⟨G, hGe⟩ : ∃ G : GX, G = ((dC, dI), cy, s.heap.size) := ⟨_, rfl⟩
  have hG : G.2.2 = s.heap.size := by rw [hGe]
  have hbA : ¬ mA G b := by show ¬ G.2.2 ≤ b; rw [hG]; omega
  have hN : wNs s := ⟨fun w hw => va_Nw.of (wNx_tab (List.all_eq_true.mp wNs_all w hw)) (htl w (wsN_tbl w hw)), fun w hw => st_over (List.all_eq_true.mp wOs_all w hw) (htl w (wsO_tbl w hw))⟩
  have hgs := flat_of_before _ hgv
  have hAq : ∀ a : Nat, a < s.heap.size → ¬ mA G a := fun a ha => by show ¬ G.2.2 ≤ a; rw [hG]; omega
  have hE : mE G s := ⟨fun w hw => va_Nw.of (List.all_eq_true.mp wEs_tab w hw) (htl w (wsE_tbl w hw)), vx_Zqof (htl _ st_ls1) (hts _ k_45) (hgs _ (by decide +kernel)) hAq, vx_Zqof (htl _ st_ls2) (hts _ k_45) (hgs _ (by decide +kernel)) hAq⟩
  have hM0 : mM G (fun _ => none) (fun _ _ => 0) (fun _ _ => 0) s.heap := by
    intro a f h
    cases (show (none : Option Shp) = some f from h)
  have hw : mW G (fun _ => none) s (fun _ _ => 0) (fun _ _ => 0) s.heap [] := ⟨hM0, by rw [hGe]; exact ⟨hKc, hcy⟩, va_S.rf, by rw [hG]; exact Nat.le_refl _, hN⟩
  have hp := hst G s.heap.size
  have hz : s.heap.size = s.heap.size := rfl
  generalize hzz : s.heap.size = z at hp hz hbl hG hAq
  have hz : s.heap.size = z := hzz
  have hl := lv_entry ([.ref b]) (n := 8) (Nat.le_of_ble_eq_true rfl)
  rw [lg_entry_eq]
  generalize (lg_sl ([.ref b]) ++ List.replicate (8 - (lg_sl ([.ref b])).length) Slot.unset).toArray = ls at hl ⊢
  have hl : lv_has ls 8 [(0, .ref b)] := hl
  refine r_new (C := RX6) (T := TX6) (N := 2) hx hb hts hown2 i_X6 tyX6 tyX6_ok (hts _ k_51) (hts _ k_52) (hts _ k_35) hw hz rfl (sXK 0 z) rfl (fun j hj => by rcases (show j = 0 ∨ j = 1 by omega) with rfl | rfl <;> rfl) (by show 0 + 1 ≤ 600384; omega) (by show 0 + 2 ≤ 7291370; omega) dL_law_0 (fun Sh1 I1 L1 H1 eS1 eI1 eL1 hw1 hz1 => ?_)
  replace hp := hp Sh1 eS1 I1 eI1 L1 eL1
  refine lv_dup hx hb dL_law_3 rfl ?_
  refine r_cnI (As := []) ⟨hx, hb, hml, hown2, hts⟩ (c_X6_init l G (by rw [eS1]; exact shu_at _ _ _) hp) (cw_L_26 hts ⟨Nat.le_of_ble_eq_true rfl, Nat.le_of_ble_eq_true rfl⟩) hw1 hz1 rfl rfl hl.1 (Nat.le_of_ble_eq_true rfl) ⟨by show 0 + 1 + 1 ≤ 600384; omega, by show 0 + 2 + 6 ≤ 7291370; omega⟩ dL_law_4 (fun z2 Sh2 I2 L2 H2 locs2 hp hw2 hz2 => ?_)
  obtain ⟨-, hp⟩ := hp
  refine lv_astore_n (lv' := [(1, .ref z), (0, .ref b)]) hx hb dL_law_7 rfl hl (by decide) rfl (fun ls hl => ?_)
  refine r_new (C := RX7) (T := TX7) (N := 38) hx hb hts hown2 i_X7 tyX7 tyX7_ok (hts _ k_662) (hts _ k_663) (hts _ k_36) hw2 hz2 rfl (sModelK 0 z2) rfl (fun j hj => by rcases (show j = 0 ∨ j = 1 ∨ j = 2 ∨ j = 3 ∨ j = 4 ∨ j = 5 ∨ j = 6 ∨ j = 7 ∨ j = 8 ∨ j = 9 ∨ j = 10 ∨ j = 11 ∨ j = 12 ∨ j = 13 ∨ j = 14 ∨ j = 15 ∨ j = 16 ∨ j = 17 ∨ j = 18 ∨ j = 19 ∨ j = 20 ∨ j = 21 ∨ j = 22 ∨ j = 23 ∨ j = 24 ∨ j = 25 ∨ j = 26 ∨ j = 27 ∨ j = 28 ∨ j = 29 ∨ j = 30 ∨ j = 31 ∨ j = 32 ∨ j = 33 ∨ j = 34 ∨ j = 35 ∨ j = 36 ∨ j = 37 by omega) with rfl | rfl | rfl | rfl | rfl | rfl | rfl | rfl | rfl | rfl | rfl | rfl | rfl | rfl | rfl | rfl | rfl | rfl | rfl | rfl | rfl | rfl | rfl | rfl | rfl | rfl | rfl | rfl | rfl | rfl | rfl | rfl | rfl | rfl | rfl | rfl | rfl | rfl <;> rfl) (by show 0 + 1 + 1 + 1 ≤ 600384; omega) (by show 0 + 2 + 6 + 38 ≤ 7291370; omega) dL_law_8 (fun Sh3 I3 L3 H3 eS3 eI3 eL3 hw3 hz3 => ?_)
  replace hp := hp Sh3 eS3 I3 eI3 L3 eL3
  refine lv_dup hx hb dL_law_11 rfl ?_
  refine r_cnI (As := []) ⟨hx, hb, hml, hown2, hts⟩ (c_X7_init l G (by rw [eS3]; exact shu_at _ _ _) hp) (cw_L_29 hts ⟨Nat.le_of_ble_eq_true rfl, Nat.le_of_ble_eq_true rfl⟩) hw3 hz3 rfl rfl hl.1 (Nat.le_of_ble_eq_true rfl) ⟨by show 0 + 1 + 1 + 1 + 34 ≤ 600384; omega, by show 0 + 2 + 6 + 38 + 11376 ≤ 7291370; omega⟩ dL_law_12 (fun z4 Sh4 I4 L4 H4 locs4 hp hw4 hz4 => ?_)
  refine lv_astore_n (lv' := [(2, .ref z2), (1, .ref z), (0, .ref b)]) hx hb dL_law_15 rfl hl (by decide) rfl (fun ls hl => ?_)
  refine lv_iconst (v := 1) hx hb dL_law_16 (by decide) ?_
  refine r_newJ (N' := 1) hx hb (hts _ k_138) hw4 hz4 (by decide) (by decide) (Nat.le_of_ble_eq_true rfl) (by show 0 + 1 + 1 + 1 + 34 + 1 ≤ 600384; omega) (by show 0 + 2 + 6 + 38 + 11376 + 1 ≤ 7291370; omega) dL_law_17 (fun Sh5 I5 L5 H5 eS5 eI5 eL5 hw5 hz5 => ?_)
  obtain ⟨F, hR⟩ := hp Sh5 eS5 I5 eI5 L5 eL5
  refine lv_astore_n (lv' := [(3, .ref z4), (2, .ref z2), (1, .ref z), (0, .ref b)]) hx hb dL_law_19 rfl hl (by decide) rfl (fun ls hl => ?_)
  refine lv_iconst (v := 0) hx hb dL_law_20 (by decide) ?_
  refine lv_istore (lv' := [(4, .int 0), (3, .ref z4), (2, .ref z2), (1, .ref z), (0, .ref b)]) hx hb dL_law_21 hl (by decide) rfl (fun ls hl => ?_)
  exact law_loop (Rel := fun i => Rel i G z z2 z4) (C := 38) (S := 11423) hx hb hr hlocks hml hown2 hts hX (by rw [hzz]; exact hbl) hbA hE hST (by rw [hG, hzz]) hL (fun i hi => hLS i hi G z z2 z4) (by omega) (by omega) 65 0 0 rfl (by omega) nI_0.symm Sh5 F I5 L5 H5 _ ls hR hw5 (lv_sub hl [4, 3, 2, 1, 0] rfl)
