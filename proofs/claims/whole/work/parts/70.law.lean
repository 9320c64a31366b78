section CWL
variable {R : Room} {s : State} {args : Array Value}
theorem cw_L_26 (hts : ∀ w ∈ wsA, w.before args s = true) (hR : 1 + 1 ≤ R.frames ∧ 8 + (1 + 11) + 14 ≤ R.locals) : CallB R s args RL 26 yX6_init cX6_init 1 none (wM yX6_init cX6_init 1 none) (rmB 1 1 6 14) 1 6 0 ∧ yX6_init.name = "<init>" ∧ (Cond.instanceMethod yX6_init).before args s = true :=
  cwI 0 hts (lk_C k_55) rfl rfl rfl (hts _ k_35) (hts _ k_53) (hts _ k_54) rfl (by decide +kernel) hR
theorem cw_L_29 (hts : ∀ w ∈ wsA, w.before args s = true) (hR : 1 + 1 ≤ R.frames ∧ 8 + (1 + 11) + 14 ≤ R.locals) : CallB R s args RL 29 yX7_init cX7_init 1 none (wM yX7_init cX7_init 1 none) (rmB 1 34 11376 14) 34 11376 0 ∧ yX7_init.name = "<init>" ∧ (Cond.instanceMethod yX7_init).before args s = true :=
  cwI 0 hts (lk_C k_666) rfl rfl rfl (hts _ k_36) (hts _ k_664) (hts _ k_665) rfl (by decide +kernel) hR
theorem cw_L_30 (hts : ∀ w ∈ wsA, w.before args s = true) (hR : 4 + 1 ≤ R.frames ∧ 8 + (1 + 11) + 75 ≤ R.locals) : CallW R s args RL RX6 30 yX6_table cX6_table 1 (some .int) (wM yX6_table cX6_table 1 (some .int)) (rmB 4 134 2160 75) 134 2160 0 :=
  cwV 0 hts (lk_V k_68 k_69 k_70 k_35 k_71) rfl rfl rfl (by decide +kernel) hR
theorem cw_L_34 (hts : ∀ w ∈ wsA, w.before args s = true) (hR : 0 + 1 ≤ R.frames ∧ 8 + (1 + 11) + 0 ≤ R.locals) : CallW R s args RL RX7 34 yX7_table cX7_table 1 (some .int) (wM yX7_table cX7_table 1 (some .int)) (rmA 0 0) 0 0 0 :=
  cwV 0 hts (lk_V k_787 k_788 k_789 k_36 k_790) rfl rfl rfl (by decide +kernel) hR
theorem cw_L_35 (hts : ∀ w ∈ wsA, w.before args s = true) (hR : 3 + 1 ≤ R.frames ∧ 8 + (6 + 11) + 67 ≤ R.locals) : CallW R s args RL RX6 35 yX6_type cX6_type 6 (some .int) (wM yX6_type cX6_type 6 (some .int)) (rmA 3 67) 0 0 4 :=
  cwV 4 hts (lk_V k_277 k_278 k_279 k_35 k_280) rfl rfl rfl (by decide +kernel) hR
theorem cw_L_39 (hts : ∀ w ∈ wsA, w.before args s = true) (hR : 1 + 1 ≤ R.frames ∧ 8 + (9 + 11) + 24 ≤ R.locals) : CallW R s args RL RX7 39 yX7_type cX7_type 9 (some .int) (wM yX7_type cX7_type 9 (some .int)) (rmA 1 24) 0 0 4 :=
  cwV 4 hts (lk_V k_791 k_792 k_793 k_36 k_794) rfl rfl rfl (by decide +kernel) hR
theorem cw_L_40 (hts : ∀ w ∈ wsA, w.before args s = true) (hR : 4 + 1 ≤ R.frames ∧ 8 + (3 + 11) + 86 ≤ R.locals) : CallW R s args RL RX6 40 yX6_lay cX6_lay 3 (some .int) (wM yX6_lay cX6_lay 3 (some .int)) (rmA 4 86) 0 0 1 :=
  cwV 1 hts (lk_V k_306 k_307 k_308 k_35 k_309) rfl rfl rfl (by decide +kernel) hR
theorem cw_L_44 (hts : ∀ w ∈ wsA, w.before args s = true) (hR : 3 + 1 ≤ R.frames ∧ 8 + (2 + 11) + 68 ≤ R.locals) : CallW R s args RL RX7 44 yX7_lay cX7_lay 2 (some .int) (wM yX7_lay cX7_lay 2 (some .int)) (rmA 3 68) 0 0 1 :=
  cwV 1 hts (lk_V k_805 k_806 k_807 k_36 k_808) rfl rfl rfl (by decide +kernel) hR
theorem cw_L_45 (hts : ∀ w ∈ wsA, w.before args s = true) (hR : 2 + 1 ≤ R.frames ∧ 8 + (8 + 11) + 43 ≤ R.locals) : CallW R s args RL RX6 45 yX6_glue cX6_glue 8 (some .int) (wM yX6_glue cX6_glue 8 (some .int)) (rmA 2 43) 0 0 5 :=
  cwV 5 hts (lk_V k_333 k_334 k_335 k_35 k_336) rfl rfl rfl (by decide +kernel) hR
theorem cw_L_49 (hts : ∀ w ∈ wsA, w.before args s = true) (hR : 2 + 1 ≤ R.frames ∧ 8 + (7 + 11) + 47 ≤ R.locals) : CallW R s args RL RX7 49 yX7_glue cX7_glue 7 (some .int) (wM yX7_glue cX7_glue 7 (some .int)) (rmA 2 47) 0 0 5 :=
  cwV 5 hts (lk_V k_821 k_822 k_823 k_36 k_824) rfl rfl rfl (by decide +kernel) hR
theorem cw_L_50 (hts : ∀ w ∈ wsA, w.before args s = true) (hR : 2 + 1 ≤ R.frames ∧ 8 + (7 + 11) + 43 ≤ R.locals) : CallW R s args RL RX6 50 yX6_shrink cX6_shrink 7 (some .int) (wM yX6_shrink cX6_shrink 7 (some .int)) (rmA 2 43) 0 0 4 :=
  cwV 4 hts (lk_V k_346 k_347 k_348 k_35 k_349) rfl rfl rfl (by decide +kernel) hR
theorem cw_L_53 (hts : ∀ w ∈ wsA, w.before args s = true) (hR : 2 + 1 ≤ R.frames ∧ 8 + (6 + 11) + 47 ≤ R.locals) : CallW R s args RL RX7 53 yX7_shrink cX7_shrink 6 (some .int) (wM yX7_shrink cX7_shrink 6 (some .int)) (rmA 2 47) 0 0 4 :=
  cwV 4 hts (lk_V k_835 k_836 k_837 k_36 k_838) rfl rfl rfl (by decide +kernel) hR
theorem cw_L_54 (hts : ∀ w ∈ wsA, w.before args s = true) (hR : 2 + 1 ≤ R.frames ∧ 8 + (3 + 11) + 43 ≤ R.locals) : CallW R s args RL RX6 54 yX6_row cX6_row 3 (some .int) (wM yX6_row cX6_row 3 (some .int)) (rmA 2 43) 0 0 1 :=
  cwV 1 hts (lk_V k_354 k_355 k_356 k_35 k_357) rfl rfl rfl (by decide +kernel) hR
theorem cw_L_57 (hts : ∀ w ∈ wsA, w.before args s = true) (hR : 1 + 1 ≤ R.frames ∧ 8 + (2 + 11) + 22 ≤ R.locals) : CallW R s args RL RX7 57 yX7_row cX7_row 2 (some .int) (wM yX7_row cX7_row 2 (some .int)) (rmA 1 22) 0 0 1 :=
  cwV 1 hts (lk_V k_839 k_840 k_841 k_36 k_842) rfl rfl rfl (by decide +kernel) hR
theorem cw_L_58 (hts : ∀ w ∈ wsA, w.before args s = true) (hR : 3 + 1 ≤ R.frames ∧ 8 + (6 + 11) + 70 ≤ R.locals) : CallW R s args RL RX6 58 yX6_entry cX6_entry 6 (some .int) (wM yX6_entry cX6_entry 6 (some .int)) (rmA 3 70) 0 0 4 :=
  cwV 4 hts (lk_V k_370 k_371 k_372 k_35 k_373) rfl rfl rfl (by decide +kernel) hR
theorem cw_L_62 (hts : ∀ w ∈ wsA, w.before args s = true) (hR : 2 + 1 ≤ R.frames ∧ 8 + (7 + 11) + 47 ≤ R.locals) : CallW R s args RL RX7 62 yX7_entry cX7_entry 7 (some .int) (wM yX7_entry cX7_entry 7 (some .int)) (rmA 2 47) 0 0 4 :=
  cwV 4 hts (lk_V k_847 k_848 k_849 k_36 k_850) rfl rfl rfl (by decide +kernel) hR
theorem cw_L_63 (hts : ∀ w ∈ wsA, w.before args s = true) (hR : 3 + 1 ≤ R.frames ∧ 8 + (6 + 11) + 70 ≤ R.locals) : CallW R s args RL RX6 63 yX6_nest cX6_nest 6 (some .int) (wM yX6_nest cX6_nest 6 (some .int)) (rmA 3 70) 0 0 3 :=
  cwV 3 hts (lk_V k_395 k_396 k_397 k_35 k_398) rfl rfl rfl (by decide +kernel) hR
theorem cw_L_67 (hts : ∀ w ∈ wsA, w.before args s = true) (hR : 2 + 1 ≤ R.frames ∧ 8 + (4 + 11) + 47 ≤ R.locals) : CallW R s args RL RX7 67 yX7_nest cX7_nest 4 (some .int) (wM yX7_nest cX7_nest 4 (some .int)) (rmA 2 47) 0 0 3 :=
  cwV 3 hts (lk_V k_869 k_870 k_871 k_36 k_872) rfl rfl rfl (by decide +kernel) hR
theorem cw_L_68 (hts : ∀ w ∈ wsA, w.before args s = true) (hR : 2 + 1 ≤ R.frames ∧ 8 + (3 + 11) + 43 ≤ R.locals) : CallW R s args RL RX6 68 yX6_end cX6_end 3 (some .int) (wM yX6_end cX6_end 3 (some .int)) (rmA 2 43) 0 0 1 :=
  cwV 1 hts (lk_V k_409 k_410 k_411 k_35 k_412) rfl rfl rfl (by decide +kernel) hR
theorem cw_L_71 (hts : ∀ w ∈ wsA, w.before args s = true) (hR : 1 + 1 ≤ R.frames ∧ 8 + (2 + 11) + 21 ≤ R.locals) : CallW R s args RL RX7 71 yX7_end cX7_end 2 (some .int) (wM yX7_end cX7_end 2 (some .int)) (rmA 1 21) 0 0 1 :=
  cwV 1 hts (lk_V k_873 k_874 k_875 k_36 k_876) rfl rfl rfl (by decide +kernel) hR
theorem cw_L_72 (hts : ∀ w ∈ wsA, w.before args s = true) (hR : 2 + 1 ≤ R.frames ∧ 8 + (3 + 11) + 43 ≤ R.locals) : CallW R s args RL RX6 72 yX6_between cX6_between 3 (some .int) (wM yX6_between cX6_between 3 (some .int)) (rmA 2 43) 0 0 1 :=
  cwV 1 hts (lk_V k_417 k_418 k_419 k_35 k_420) rfl rfl rfl (by decide +kernel) hR
theorem cw_L_75 (hts : ∀ w ∈ wsA, w.before args s = true) (hR : 1 + 1 ≤ R.frames ∧ 8 + (2 + 11) + 22 ≤ R.locals) : CallW R s args RL RX7 75 yX7_between cX7_between 2 (some .int) (wM yX7_between cX7_between 2 (some .int)) (rmA 1 22) 0 0 1 :=
  cwV 1 hts (lk_V k_877 k_878 k_879 k_36 k_880) rfl rfl rfl (by decide +kernel) hR
theorem cw_L_76 (hts : ∀ w ∈ wsA, w.before args s = true) (hR : 5 + 1 ≤ R.frames ∧ 8 + (5 + 11) + 114 ≤ R.locals) : CallW R s args RL RX6 76 yX6_run cX6_run 5 (some .long) (wM yX6_run cX6_run 5 (some .long)) (rmA 5 114) 0 0 3 :=
  cwV 3 hts (lk_V k_425 k_426 k_427 k_35 k_428) rfl rfl rfl (by decide +kernel) hR
theorem cw_L_80 (hts : ∀ w ∈ wsA, w.before args s = true) (hR : 5 + 1 ≤ R.frames ∧ 8 + (7 + 11) + 133 ≤ R.locals) : CallW R s args RL RX7 80 yX7_run cX7_run 7 (some .long) (wM yX7_run cX7_run 7 (some .long)) (rmA 5 133) 0 0 3 :=
  cwV 3 hts (lk_V k_881 k_882 k_883 k_36 k_884) rfl rfl rfl (by decide +kernel) hR
theorem cw_L_81 (hts : ∀ w ∈ wsA, w.before args s = true) (hR : 2 + 1 ≤ R.frames ∧ 8 + (4 + 11) + 43 ≤ R.locals) : CallW R s args RL RX6 81 yX6_width cX6_width 4 (some .int) (wM yX6_width cX6_width 4 (some .int)) (rmA 2 43) 0 0 2 :=
  cwV 2 hts (lk_V k_508 k_509 k_510 k_35 k_511) rfl rfl rfl (by decide +kernel) hR
theorem cw_L_84 (hts : ∀ w ∈ wsA, w.before args s = true) (hR : 2 + 1 ≤ R.frames ∧ 8 + (3 + 11) + 43 ≤ R.locals) : CallW R s args RL RX7 84 yX7_width cX7_width 3 (some .int) (wM yX7_width cX7_width 3 (some .int)) (rmA 2 43) 0 0 2 :=
  cwV 2 hts (lk_V k_915 k_916 k_917 k_36 k_918) rfl rfl rfl (by decide +kernel) hR
theorem cw_L_85 (hts : ∀ w ∈ wsA, w.before args s = true) (hR : 2 + 1 ≤ R.frames ∧ 8 + (4 + 11) + 43 ≤ R.locals) : CallW R s args RL RX6 85 yX6_isVoid cX6_isVoid 4 (some .boolean) (wM yX6_isVoid cX6_isVoid 4 (some .boolean)) (rmA 2 43) 0 0 2 :=
  cwV 2 hts (lk_V k_517 k_518 k_519 k_35 k_520) rfl rfl rfl (by decide +kernel) hR
theorem cw_L_89 (hts : ∀ w ∈ wsA, w.before args s = true) (hR : 2 + 1 ≤ R.frames ∧ 8 + (3 + 11) + 43 ≤ R.locals) : CallW R s args RL RX7 89 yX7_isVoid cX7_isVoid 3 (some .boolean) (wM yX7_isVoid cX7_isVoid 3 (some .boolean)) (rmA 2 43) 0 0 2 :=
  cwV 2 hts (lk_V k_923 k_924 k_925 k_36 k_926) rfl rfl rfl (by decide +kernel) hR
theorem cw_L_95 (hts : ∀ w ∈ wsA, w.before args s = true) (hR : 2 + 1 ≤ R.frames ∧ 8 + (3 + 11) + 43 ≤ R.locals) : CallW R s args RL RX7 95 yX7_place cX7_place 3 (some .long) (wM yX7_place cX7_place 3 (some .long)) (rmA 2 43) 0 0 2 :=
  cwV 2 hts (lk_V k_927 k_928 k_929 k_36 k_930) rfl rfl rfl (by decide +kernel) hR
theorem cw_L_96 (hts : ∀ w ∈ wsA, w.before args s = true) (hR : 0 + 1 ≤ R.frames ∧ 8 + (1 + 11) + 0 ≤ R.locals) : CallW R s args RL RX7 96 yX7_thrown cX7_thrown 1 (some .int) (wM yX7_thrown cX7_thrown 1 (some .int)) (rmA 0 0) 0 0 0 :=
  cwV 0 hts (lk_V k_783 k_784 k_785 k_36 k_786) rfl rfl rfl (by decide +kernel) hR
theorem cw_L_102 (hts : ∀ w ∈ wsA, w.before args s = true) (hR : 2 + 1 ≤ R.frames ∧ 8 + (9 + 11) + 43 ≤ R.locals) : CallW R s args RL RX7 102 yX7_at cX7_at 9 (some .long) (wM yX7_at cX7_at 9 (some .long)) (rmA 2 43) 0 0 4 :=
  cwV 4 hts (lk_V k_931 k_932 k_933 k_36 k_934) rfl rfl rfl (by decide +kernel) hR
theorem cw_L_105 (hts : ∀ w ∈ wsA, w.before args s = true) (hR : 1 + 1 ≤ R.frames ∧ 8 + (3 + 11) + 21 ≤ R.locals) : CallW R s args RL RX7 105 yX7_item cX7_item 3 (some .int) (wM yX7_item cX7_item 3 (some .int)) (rmA 1 21) 0 0 2 :=
  cwV 2 hts (lk_V k_935 k_936 k_937 k_36 k_938) rfl rfl rfl (by decide +kernel) hR
theorem cw_L_108 (hts : ∀ w ∈ wsA, w.before args s = true) (hR : 1 + 1 ≤ R.frames ∧ 8 + (3 + 11) + 21 ≤ R.locals) : CallW R s args RL RX7 108 yX7_count cX7_count 3 (some .long) (wM yX7_count cX7_count 3 (some .long)) (rmA 1 21) 0 0 2 :=
  cwV 2 hts (lk_V k_939 k_940 k_941 k_36 k_942) rfl rfl rfl (by decide +kernel) hR
end CWL
def lawK_place (G : GX) (Sh : SH) (F : Nat → Option Nat) (x mm o : Nat) (Rel : SH → (Nat → Option Nat) → MI → ML → Prop) (q1 q2 : Int32) (k : Int32) (I1 : MI) (L1 : ML) : Prop := wp_X7_place G Sh mm q1 q2 I1 L1 (fun b I2 L2 => wp_X7_thrown G Sh mm I2 L2 (fun t I3 L3 => t = k ∧ (k = 0 → L3 o 0 = b) ∧ Rel Sh F I3 L3))
def lawK_at (G : GX) (Sh : SH) (F : Nat → Option Nat) (x mm o : Nat) (Rel : SH → (Nat → Option Nat) → MI → ML → Prop) (q1 q2 q3 q4 : Int32) (k : Int32) (I1 : MI) (L1 : ML) : Prop := wp_X7_at G Sh mm q1 q2 q3 q4 I1 L1 (fun b I2 L2 => wp_X7_thrown G Sh mm I2 L2 (fun t I3 L3 => t = k ∧ (k = 0 → L3 o 0 = b) ∧ Rel Sh F I3 L3))
def lawK_item (G : GX) (Sh : SH) (F : Nat → Option Nat) (x mm o : Nat) (Rel : SH → (Nat → Option Nat) → MI → ML → Prop) (q1 q2 : Int32) (k : Int32) (I1 : MI) (L1 : ML) : Prop := wp_X7_item G Sh mm q1 q2 I1 L1 (fun b I2 L2 => wp_X7_thrown G Sh mm I2 L2 (fun t I3 L3 => t = k ∧ (k = 0 → L3 o 0 = (Int32.toInt64 b)) ∧ Rel Sh F I3 L3))
def lawK_count (G : GX) (Sh : SH) (F : Nat → Option Nat) (x mm o : Nat) (Rel : SH → (Nat → Option Nat) → MI → ML → Prop) (q1 q2 : Int32) (k : Int32) (I1 : MI) (L1 : ML) : Prop := wp_X7_count G Sh mm q1 q2 I1 L1 (fun b I2 L2 => wp_X7_thrown G Sh mm I2 L2 (fun t I3 L3 => t = k ∧ (k = 0 → L3 o 0 = b) ∧ Rel Sh F I3 L3))
def lawS_table (G : GX) (x mm o : Nat) (Rel : SH → (Nat → Option Nat) → MI → ML → Prop) (Sh : SH) (F : Nat → Option Nat) (I : MI) (L : ML) : Prop := ∀ z : Nat, (∀ a f, Sh a = some f → a < z) → G.2.2 ≤ z → wp_X6_table G z Sh x I L (fun r z1 Sh1 I1 L1 => ∃ F1, isX G Sh1 x F1 ∧ isModel G Sh1 mm ∧ Sh1 o = some (sJ G 1) ∧ wp_X7_table G Sh1 mm I1 L1 (fun r2 I2 L2 => r = r2 ∧ Rel Sh1 F1 I2 L2))
def lawS_type (G : GX) (x mm o : Nat) (Rel : SH → (Nat → Option Nat) → MI → ML → Prop) (Sh : SH) (F : Nat → Option Nat) (I : MI) (L : ML) : Prop := ∀ q1 q2 q3 q4 : Int32, wp_X6_type G Sh x F q1 q2 q3 q4 I L (fun r I1 L1 => wp_X7_type G Sh mm q1 q2 q3 q4 I1 L1 (fun r2 I2 L2 => r = r2 ∧ Rel Sh F I2 L2))
def lawS_lay (G : GX) (x mm o : Nat) (Rel : SH → (Nat → Option Nat) → MI → ML → Prop) (Sh : SH) (F : Nat → Option Nat) (I : MI) (L : ML) : Prop := ∀ q1 : Int32, wp_X6_lay G Sh x F q1 I L (fun r I1 L1 => wp_X7_lay G Sh mm q1 I1 L1 (fun r2 I2 L2 => r = r2 ∧ Rel Sh F I2 L2))
def lawS_glue (G : GX) (x mm o : Nat) (Rel : SH → (Nat → Option Nat) → MI → ML → Prop) (Sh : SH) (F : Nat → Option Nat) (I : MI) (L : ML) : Prop := ∀ q1 q2 q3 q4 q5 : Int32, wp_X6_glue G Sh x F q1 q2 q3 q4 q5 I L (fun r I1 L1 => wp_X7_glue G Sh mm q1 q2 q3 q4 q5 I1 L1 (fun r2 I2 L2 => r = r2 ∧ Rel Sh F I2 L2))
def lawS_shrink (G : GX) (x mm o : Nat) (Rel : SH → (Nat → Option Nat) → MI → ML → Prop) (Sh : SH) (F : Nat → Option Nat) (I : MI) (L : ML) : Prop := ∀ q1 q2 q3 q4 : Int32, wp_X6_shrink G Sh x F q1 q2 q3 q4 I L (fun r I1 L1 => wp_X7_shrink G Sh mm q1 q2 q3 q4 I1 L1 (fun r2 I2 L2 => r = r2 ∧ Rel Sh F I2 L2))
def lawS_row (G : GX) (x mm o : Nat) (Rel : SH → (Nat → Option Nat) → MI → ML → Prop) (Sh : SH) (F : Nat → Option Nat) (I : MI) (L : ML) : Prop := ∀ q1 : Int32, wp_X6_row G Sh x F q1 I L (fun r I1 L1 => wp_X7_row G Sh mm q1 I1 L1 (fun r2 I2 L2 => r = r2 ∧ Rel Sh F I2 L2))
def lawS_entry (G : GX) (x mm o : Nat) (Rel : SH → (Nat → Option Nat) → MI → ML → Prop) (Sh : SH) (F : Nat → Option Nat) (I : MI) (L : ML) : Prop := ∀ q1 q2 q3 q4 : Int32, q4 = 0 ∨ q4 = 1 → wp_X6_entry G Sh x F q1 q2 q3 q4 I L (fun r I1 L1 => wp_X7_entry G Sh mm q1 q2 q3 q4 I1 L1 (fun r2 I2 L2 => r = r2 ∧ Rel Sh F I2 L2))
def lawS_nest (G : GX) (x mm o : Nat) (Rel : SH → (Nat → Option Nat) → MI → ML → Prop) (Sh : SH) (F : Nat → Option Nat) (I : MI) (L : ML) : Prop := ∀ q1 q2 q3 : Int32, wp_X6_nest G Sh x F q1 q2 q3 I L (fun r I1 L1 => wp_X7_nest G Sh mm q1 q2 q3 I1 L1 (fun r2 I2 L2 => r = r2 ∧ Rel Sh F I2 L2))
def lawS_end (G : GX) (x mm o : Nat) (Rel : SH → (Nat → Option Nat) → MI → ML → Prop) (Sh : SH) (F : Nat → Option Nat) (I : MI) (L : ML) : Prop := ∀ q1 : Int32, wp_X6_end G Sh x F q1 I L (fun r I1 L1 => wp_X7_end G Sh mm q1 I1 L1 (fun r2 I2 L2 => r = r2 ∧ Rel Sh F I2 L2))
def lawS_between (G : GX) (x mm o : Nat) (Rel : SH → (Nat → Option Nat) → MI → ML → Prop) (Sh : SH) (F : Nat → Option Nat) (I : MI) (L : ML) : Prop := ∀ q1 : Int32, wp_X6_between G Sh x F q1 I L (fun r I1 L1 => wp_X7_between G Sh mm q1 I1 L1 (fun r2 I2 L2 => r = r2 ∧ Rel Sh F I2 L2))
def lawS_run (G : GX) (x mm o : Nat) (Rel : SH → (Nat → Option Nat) → MI → ML → Prop) (Sh : SH) (F : Nat → Option Nat) (I : MI) (L : ML) : Prop := ∀ q1 q2 q3 : Int32, wp_X6_run G Sh x F q1 q2 q3 I L (fun r I1 L1 => wp_X7_run G Sh mm q1 q2 q3 I1 L1 (fun r2 I2 L2 => r = r2 ∧ Rel Sh F I2 L2))
def lawS_width (G : GX) (x mm o : Nat) (Rel : SH → (Nat → Option Nat) → MI → ML → Prop) (Sh : SH) (F : Nat → Option Nat) (I : MI) (L : ML) : Prop := ∀ q1 q2 : Int32, wp_X6_width G Sh x F q1 q2 I L (fun r I1 L1 => wp_X7_width G Sh mm q1 q2 I1 L1 (fun r2 I2 L2 => r = r2 ∧ Rel Sh F I2 L2))
def lawS_isVoid (G : GX) (x mm o : Nat) (Rel : SH → (Nat → Option Nat) → MI → ML → Prop) (Sh : SH) (F : Nat → Option Nat) (I : MI) (L : ML) : Prop := ∀ q1 q2 : Int32, wp_X6_isVoid G Sh x F q1 q2 I L (fun r I1 L1 => wp_X7_isVoid G Sh mm q1 q2 I1 L1 (fun r2 I2 L2 => r = r2 ∧ Rel Sh F I2 L2))
def lawS_place (G : GX) (x mm o : Nat) (Rel : SH → (Nat → Option Nat) → MI → ML → Prop) (Sh : SH) (F : Nat → Option Nat) (I : MI) (L : ML) : Prop := ∀ q1 q2 : Int32, wp_X6_place G Sh x F q1 q2 I L (fun r I1 L1 => ∀ L2 : ML, L2 = mul L1 o (0 : Int32).toNatClampNeg r → lawK_place G Sh F x mm o Rel q1 q2 0 I1 L2) (fun I1 L1 => lawK_place G Sh F x mm o Rel q1 q2 1 I1 L1)
def lawS_at (G : GX) (x mm o : Nat) (Rel : SH → (Nat → Option Nat) → MI → ML → Prop) (Sh : SH) (F : Nat → Option Nat) (I : MI) (L : ML) : Prop := ∀ q1 q2 q3 q4 : Int32, wp_X6_at G Sh x F q1 q2 q3 q4 I L (fun r I1 L1 => ∀ L2 : ML, L2 = mul L1 o (0 : Int32).toNatClampNeg r → lawK_at G Sh F x mm o Rel q1 q2 q3 q4 0 I1 L2) (fun I1 L1 => lawK_at G Sh F x mm o Rel q1 q2 q3 q4 1 I1 L1)
def lawS_item (G : GX) (x mm o : Nat) (Rel : SH → (Nat → Option Nat) → MI → ML → Prop) (Sh : SH) (F : Nat → Option Nat) (I : MI) (L : ML) : Prop := ∀ q1 q2 : Int32, wp_X6_item G Sh x F q1 q2 I L (fun r I1 L1 => ∀ L2 : ML, L2 = mul L1 o (0 : Int32).toNatClampNeg (Int32.toInt64 r) → lawK_item G Sh F x mm o Rel q1 q2 0 I1 L2) (fun I1 L1 => lawK_item G Sh F x mm o Rel q1 q2 1 I1 L1)
def lawS_count (G : GX) (x mm o : Nat) (Rel : SH → (Nat → Option Nat) → MI → ML → Prop) (Sh : SH) (F : Nat → Option Nat) (I : MI) (L : ML) : Prop := ∀ q1 q2 : Int32, wp_X6_count G Sh x F q1 q2 I L (fun r I1 L1 => ∀ L2 : ML, L2 = mul L1 o (0 : Int32).toNatClampNeg r → lawK_count G Sh F x mm o Rel q1 q2 0 I1 L2) (fun I1 L1 => lawK_count G Sh F x mm o Rel q1 q2 1 I1 L1)
/-- a relation of the world that every call keeps, the answers alike -/
def LSt (G : GX) (x mm o : Nat) (Rel0 Rel : SH → (Nat → Option Nat) → MI → ML → Prop) : Prop := ∀ Sh F I L, Rel0 Sh F I L → Rel Sh F I L ∧ (isX G Sh x F ∧ isModel G Sh mm ∧ Sh o = some (sJ G 1)) ∧ lawS_table G x mm o Rel Sh F I L ∧ lawS_type G x mm o Rel Sh F I L ∧ lawS_lay G x mm o Rel Sh F I L ∧ lawS_glue G x mm o Rel Sh F I L ∧ lawS_shrink G x mm o Rel Sh F I L ∧ lawS_row G x mm o Rel Sh F I L ∧ lawS_entry G x mm o Rel Sh F I L ∧ lawS_nest G x mm o Rel Sh F I L ∧ lawS_end G x mm o Rel Sh F I L ∧ lawS_between G x mm o Rel Sh F I L ∧ lawS_run G x mm o Rel Sh F I L ∧ lawS_width G x mm o Rel Sh F I L ∧ lawS_isVoid G x mm o Rel Sh F I L ∧ lawS_place G x mm o Rel Sh F I L ∧ lawS_at G x mm o Rel Sh F I L ∧ lawS_item G x mm o Rel Sh F I L ∧ lawS_count G x mm o Rel Sh F I L
/-- what the walk of one turn stands on -/
def LCx (p : Program) (l : Launch) (s : State) (m : MethodId) (c : Code) (b Ln : Nat) (xs : Nat → Int32) (G : GX) (x4 q1 q2 q3 q4 q5 : Int32) : Prop := p.tables.exec = Jvm.exec ∧ c.code = cL_law ∧ c.maxLocals = 8 ∧ s.vm.findClass RL = some m.cls ∧ (∀ w ∈ wsA, w.before #[Value.ref b] s = true) ∧ va_X b Ln xs s s.heap ∧ b < s.heap.size ∧ ¬ mA G b ∧ mE G s ∧ l.stackTraces = false ∧ (vp_in (x4 + (1 : Int32)) Ln ∧ xs (x4 + (1 : Int32)).toNatClampNeg = q1) ∧ (vp_in (x4 + (2 : Int32)) Ln ∧ xs (x4 + (2 : Int32)).toNatClampNeg = q2) ∧ (vp_in (x4 + (3 : Int32)) Ln ∧ xs (x4 + (3 : Int32)).toNatClampNeg = q3) ∧ (vp_in (x4 + (4 : Int32)) Ln ∧ xs (x4 + (4 : Int32)).toNatClampNeg = q4) ∧ (vp_in (x4 + (5 : Int32)) Ln ∧ xs (x4 + (5 : Int32)).toNatClampNeg = q5)
section LR
variable {p : Program} {l : Launch} {e : Env} {R : Room} {s : State} {m : MethodId} {args : Array Value} {below : List Frame} {meth : Method} {c : Code} {H : Heap} {locs : List Loc} {cells slots : Nat} {Q : State → Prop} {cc : ByteArray} {pc : Nat} {ls : Array Slot} {rest : List Value} {G : GX} {Sh : SH} {I : MI} {L : ML}
theorem r_sld (hx : p.tables.exec = Jvm.exec) (hb : c.code = cc) {b Ln : Nat} {xs : Nat → Int32} (hX : va_X b Ln xs s s.heap) (hbl : b < s.heap.size) (hbA : ¬ mA G b) (hw : mW G Sh s I L H locs) {i v : Int32} (h : vp_in i Ln ∧ xs i.toNatClampNeg = v) (hdg : decode cc pc = .ok (.iaload, 1))
    (kk : W p l e R s m args below meth c H locs cells slots Q (F0 m (pc + 1) ls (.int v :: rest))) : W p l e R s m args below meth c H locs cells slots Q (F0 m pc ls (.int i :: .ref b :: rest)) :=
  va_sld hx hb hX hbl hbA hw.2.2.1 h.1 hdg (by rw [h.2]; exact kk)
end LR
set_option maxHeartbeats 4000000 in
set_option maxRecDepth 100000 in
theorem lawc_table {p : Program} {l : Launch} {e : Env} {s : State} {m : MethodId} {below : List Frame} {meth : Method} {c : Code} {b Ln : Nat} {xs : Nat → Int32} {G : GX} {x4 q1 q2 q3 q4 q5 : Int32} {Q : State → Prop} {Rel : SH → (Nat → Option Nat) → MI → ML → Prop} {x mm o : Nat} {Sh : SH} {F : Nat → Option Nat} {I : MI} {L : ML} {H : Heap} {locs : List Loc} {ls : Array Slot} {C S : Nat} (LC : LCx p l s m c b Ln xs G x4 q1 q2 q3 q4 q5) (hC : C + 134 ≤ 600384 ∧ S + 2160 ≤ 7291370)
    (hB : ∀ (Sh : SH) (F : Nat → Option Nat) (I : MI) (L : ML) (H : Heap) (locs : List Loc) (ls : Array Slot), Rel Sh F I L → mW G Sh s I L H locs → lv_has ls 8 [(0, .ref b), (1, .ref x), (2, .ref mm), (3, .ref o), (4, .int x4)] → W p l e room_1 s m #[Value.ref b] below meth c H locs (C + 134) (S + 2160) Q (F0 m 975 ls []))
    (hX0 : isX G Sh x F) (hM0 : isModel G Sh mm) (hO0 : Sh o = some (sJ G 1)) (hp : lawS_table G x mm o Rel Sh F I L) (hw : mW G Sh s I L H locs) (hl : lv_has ls 8 [(0, .ref b), (1, .ref x), (2, .ref mm), (3, .ref o), (4, .int x4)]) : W p l e room_1 s m #[Value.ref b] below meth c H locs C S Q (F0 m 124 ls []) := by
  obtain ⟨hx, hb, hml, hown, hts, hX, hbl, hbA, hE, hST, hq1, hq2, hq3, hq4, hq5⟩ := LC
  obtain ⟨hC9, hS9⟩ := hC
  have hC0 : C ≤ room_1.cells ∧ S ≤ room_1.slots := ⟨by show C ≤ 600384; omega, by show S ≤ 7291370; omega⟩
  have hC1 : C + 1 ≤ room_1.cells ∧ S + 6 ≤ room_1.slots := ⟨by show C + 1 ≤ 600384; omega, by show S + 6 ≤ 7291370; omega⟩
  have hCT : C + 134 ≤ room_1.cells ∧ S + 2160 ≤ room_1.slots := ⟨hC9, hS9⟩
  unfold lawS_table at hp
  refine lv_aload_n hx hb dL_law_124 rfl (lv_at hl 1 rfl) ?_
  refine r_cvT (As := []) ⟨hx, hb, hml, hown, hts⟩ (c_X6_table l G hX0.1 (hp _ (fun a f h => hw.lt h) hw.low)) (cw_L_30 hts ⟨Nat.le_of_ble_eq_true rfl, Nat.le_of_ble_eq_true rfl⟩) hw rfl (hw.recv hX0.1 rfl rfl) rfl rfl hl.1 (Nat.le_of_ble_eq_true rfl) hCT dL_law_125 (fun r_1 z_2 S_3 I_4 L_5 H locs hp hw hz => ?_)
  obtain ⟨F1, hX1, hM1, hO1, hp⟩ := hp
  refine lv_aload_n hx hb dL_law_128 rfl (lv_at hl 2 rfl) ?_
  refine r_cvI (As := []) ⟨hx, hb, hml, hown, hts⟩ (c_X7_table l G hM1 hp) (cw_L_34 hts ⟨Nat.le_of_ble_eq_true rfl, Nat.le_of_ble_eq_true rfl⟩) hw (hw.recv hM1.1 rfl rfl) rfl rfl hl.1 (Nat.le_of_ble_eq_true rfl) hCT dL_law_129 (fun r_6 I_7 L_8 H locs hp hw => ?_)
  obtain ⟨heq, hp⟩ := hp
  refine lv_icmp_eq (tgt := 975) hx hb dL_law_132 (by decide) (fun hc_9 => ?_) (fun hc_9 => absurd (heq) hc_9)
  exact W.widen (Nat.le_refl _) (Nat.le_refl _) (hB _ _ _ _ _ _ _ hp hw (lv_sub hl [0, 1, 2, 3, 4] rfl))
set_option maxHeartbeats 4000000 in
set_option maxRecDepth 100000 in
theorem lawc_type {p : Program} {l : Launch} {e : Env} {s : State} {m : MethodId} {below : List Frame} {meth : Method} {c : Code} {b Ln : Nat} {xs : Nat → Int32} {G : GX} {x4 q1 q2 q3 q4 q5 : Int32} {Q : State → Prop} {Rel : SH → (Nat → Option Nat) → MI → ML → Prop} {x mm o : Nat} {Sh : SH} {F : Nat → Option Nat} {I : MI} {L : ML} {H : Heap} {locs : List Loc} {ls : Array Slot} {C S : Nat} (LC : LCx p l s m c b Ln xs G x4 q1 q2 q3 q4 q5) (hC : C + 134 ≤ 600384 ∧ S + 2160 ≤ 7291370)
    (hB : ∀ (Sh : SH) (F : Nat → Option Nat) (I : MI) (L : ML) (H : Heap) (locs : List Loc) (ls : Array Slot), Rel Sh F I L → mW G Sh s I L H locs → lv_has ls 8 [(0, .ref b), (1, .ref x), (2, .ref mm), (3, .ref o), (4, .int x4)] → W p l e room_1 s m #[Value.ref b] below meth c H locs (C + 134) (S + 2160) Q (F0 m 975 ls []))
    (hX0 : isX G Sh x F) (hM0 : isModel G Sh mm) (hO0 : Sh o = some (sJ G 1)) (hp : lawS_type G x mm o Rel Sh F I L) (hw : mW G Sh s I L H locs) (hl : lv_has ls 8 [(0, .ref b), (1, .ref x), (2, .ref mm), (3, .ref o), (4, .int x4)]) : W p l e room_1 s m #[Value.ref b] below meth c H locs C S Q (F0 m 137 ls []) := by
  obtain ⟨hx, hb, hml, hown, hts, hX, hbl, hbA, hE, hST, hq1, hq2, hq3, hq4, hq5⟩ := LC
  obtain ⟨hC9, hS9⟩ := hC
  have hC0 : C ≤ room_1.cells ∧ S ≤ room_1.slots := ⟨by show C ≤ 600384; omega, by show S ≤ 7291370; omega⟩
  have hC1 : C + 1 ≤ room_1.cells ∧ S + 6 ≤ room_1.slots := ⟨by show C + 1 ≤ 600384; omega, by show S + 6 ≤ 7291370; omega⟩
  have hCT : C + 134 ≤ room_1.cells ∧ S + 2160 ≤ room_1.slots := ⟨hC9, hS9⟩
  unfold lawS_type at hp
  refine lv_aload_n hx hb dL_law_137 rfl (lv_at hl 1 rfl) ?_
  refine lv_aload_n hx hb dL_law_138 rfl (lv_at hl 0 rfl) ?_
  refine lv_iload hx hb dL_law_139 (lv_at hl 4 rfl) ?_
  refine lv_iconst (v := 1) hx hb dL_law_141 (by decide) ?_
  refine lv_iadd hx hb dL_law_142 ?_
  refine r_sld hx hb hX hbl hbA hw hq1 dL_law_143 ?_
  refine lv_aload_n hx hb dL_law_144 rfl (lv_at hl 0 rfl) ?_
  refine lv_iload hx hb dL_law_145 (lv_at hl 4 rfl) ?_
  refine lv_iconst (v := 2) hx hb dL_law_147 (by decide) ?_
  refine lv_iadd hx hb dL_law_148 ?_
  refine r_sld hx hb hX hbl hbA hw hq2 dL_law_149 ?_
  refine lv_aload_n hx hb dL_law_150 rfl (lv_at hl 0 rfl) ?_
  refine lv_iload hx hb dL_law_151 (lv_at hl 4 rfl) ?_
  refine lv_iconst (v := 3) hx hb dL_law_153 (by decide) ?_
  refine lv_iadd hx hb dL_law_154 ?_
  refine r_sld hx hb hX hbl hbA hw hq3 dL_law_155 ?_
  refine lv_aload_n hx hb dL_law_156 rfl (lv_at hl 0 rfl) ?_
  refine lv_iload hx hb dL_law_157 (lv_at hl 4 rfl) ?_
  refine lv_iconst (v := 4) hx hb dL_law_159 (by decide) ?_
  refine lv_iadd hx hb dL_law_160 ?_
  refine r_sld hx hb hX hbl hbA hw hq4 dL_law_161 ?_
  refine r_cvI (As := [.int q1, .int q2, .int q3, .int q4]) ⟨hx, hb, hml, hown, hts⟩ (c_X6_type l G hX0 (hp q1 q2 q3 q4)) (cw_L_35 hts ⟨Nat.le_of_ble_eq_true rfl, Nat.le_of_ble_eq_true rfl⟩) hw (hw.recv hX0.1 rfl rfl) rfl rfl hl.1 (Nat.le_of_ble_eq_true rfl) hC0 dL_law_162 (fun r_1 I_2 L_3 H locs hp hw => ?_)
  refine lv_aload_n hx hb dL_law_165 rfl (lv_at hl 2 rfl) ?_
  refine lv_aload_n hx hb dL_law_166 rfl (lv_at hl 0 rfl) ?_
  refine lv_iload hx hb dL_law_167 (lv_at hl 4 rfl) ?_
  refine lv_iconst (v := 1) hx hb dL_law_169 (by decide) ?_
  refine lv_iadd hx hb dL_law_170 ?_
  refine r_sld hx hb hX hbl hbA hw hq1 dL_law_171 ?_
  refine lv_aload_n hx hb dL_law_172 rfl (lv_at hl 0 rfl) ?_
  refine lv_iload hx hb dL_law_173 (lv_at hl 4 rfl) ?_
  refine lv_iconst (v := 2) hx hb dL_law_175 (by decide) ?_
  refine lv_iadd hx hb dL_law_176 ?_
  refine r_sld hx hb hX hbl hbA hw hq2 dL_law_177 ?_
  refine lv_aload_n hx hb dL_law_178 rfl (lv_at hl 0 rfl) ?_
  refine lv_iload hx hb dL_law_179 (lv_at hl 4 rfl) ?_
  refine lv_iconst (v := 3) hx hb dL_law_181 (by decide) ?_
  refine lv_iadd hx hb dL_law_182 ?_
  refine r_sld hx hb hX hbl hbA hw hq3 dL_law_183 ?_
  refine lv_aload_n hx hb dL_law_184 rfl (lv_at hl 0 rfl) ?_
  refine lv_iload hx hb dL_law_185 (lv_at hl 4 rfl) ?_
  refine lv_iconst (v := 4) hx hb dL_law_187 (by decide) ?_
  refine lv_iadd hx hb dL_law_188 ?_
  refine r_sld hx hb hX hbl hbA hw hq4 dL_law_189 ?_
  refine r_cvI (As := [.int q1, .int q2, .int q3, .int q4]) ⟨hx, hb, hml, hown, hts⟩ (c_X7_type l G hM0 hp) (cw_L_39 hts ⟨Nat.le_of_ble_eq_true rfl, Nat.le_of_ble_eq_true rfl⟩) hw (hw.recv hM0.1 rfl rfl) rfl rfl hl.1 (Nat.le_of_ble_eq_true rfl) hC0 dL_law_190 (fun r_4 I_5 L_6 H locs hp hw => ?_)
  obtain ⟨heq, hp⟩ := hp
  refine lv_icmp_eq (tgt := 975) hx hb dL_law_193 (by decide) (fun hc_7 => ?_) (fun hc_7 => absurd (heq) hc_7)
  exact W.widen (by omega) (by omega) (hB _ _ _ _ _ _ _ hp hw (lv_sub hl [0, 1, 2, 3, 4] rfl))
set_option maxHeartbeats 4000000 in
set_option maxRecDepth 100000 in
theorem lawc_lay {p : Program} {l : Launch} {e : Env} {s : State} {m : MethodId} {below : List Frame} {meth : Method} {c : Code} {b Ln : Nat} {xs : Nat → Int32} {G : GX} {x4 q1 q2 q3 q4 q5 : Int32} {Q : State → Prop} {Rel : SH → (Nat → Option Nat) → MI → ML → Prop} {x mm o : Nat} {Sh : SH} {F : Nat → Option Nat} {I : MI} {L : ML} {H : Heap} {locs : List Loc} {ls : Array Slot} {C S : Nat} (LC : LCx p l s m c b Ln xs G x4 q1 q2 q3 q4 q5) (hC : C + 134 ≤ 600384 ∧ S + 2160 ≤ 7291370)
    (hB : ∀ (Sh : SH) (F : Nat → Option Nat) (I : MI) (L : ML) (H : Heap) (locs : List Loc) (ls : Array Slot), Rel Sh F I L → mW G Sh s I L H locs → lv_has ls 8 [(0, .ref b), (1, .ref x), (2, .ref mm), (3, .ref o), (4, .int x4)] → W p l e room_1 s m #[Value.ref b] below meth c H locs (C + 134) (S + 2160) Q (F0 m 975 ls []))
    (hX0 : isX G Sh x F) (hM0 : isModel G Sh mm) (hO0 : Sh o = some (sJ G 1)) (hp : lawS_lay G x mm o Rel Sh F I L) (hw : mW G Sh s I L H locs) (hl : lv_has ls 8 [(0, .ref b), (1, .ref x), (2, .ref mm), (3, .ref o), (4, .int x4)]) : W p l e room_1 s m #[Value.ref b] below meth c H locs C S Q (F0 m 198 ls []) := by
  obtain ⟨hx, hb, hml, hown, hts, hX, hbl, hbA, hE, hST, hq1, hq2, hq3, hq4, hq5⟩ := LC
  obtain ⟨hC9, hS9⟩ := hC
  have hC0 : C ≤ room_1.cells ∧ S ≤ room_1.slots := ⟨by show C ≤ 600384; omega, by show S ≤ 7291370; omega⟩
  have hC1 : C + 1 ≤ room_1.cells ∧ S + 6 ≤ room_1.slots := ⟨by show C + 1 ≤ 600384; omega, by show S + 6 ≤ 7291370; omega⟩
  have hCT : C + 134 ≤ room_1.cells ∧ S + 2160 ≤ room_1.slots := ⟨hC9, hS9⟩
  unfold lawS_lay at hp
  refine lv_aload_n hx hb dL_law_198 rfl (lv_at hl 1 rfl) ?_
  refine lv_aload_n hx hb dL_law_199 rfl (lv_at hl 0 rfl) ?_
  refine lv_iload hx hb dL_law_200 (lv_at hl 4 rfl) ?_
  refine lv_iconst (v := 1) hx hb dL_law_202 (by decide) ?_
  refine lv_iadd hx hb dL_law_203 ?_
  refine r_sld hx hb hX hbl hbA hw hq1 dL_law_204 ?_
  refine r_cvI (As := [.int q1]) ⟨hx, hb, hml, hown, hts⟩ (c_X6_lay l G hX0 (hp q1)) (cw_L_40 hts ⟨Nat.le_of_ble_eq_true rfl, Nat.le_of_ble_eq_true rfl⟩) hw (hw.recv hX0.1 rfl rfl) rfl rfl hl.1 (Nat.le_of_ble_eq_true rfl) hC0 dL_law_205 (fun r_1 I_2 L_3 H locs hp hw => ?_)
  refine lv_aload_n hx hb dL_law_208 rfl (lv_at hl 2 rfl) ?_
  refine lv_aload_n hx hb dL_law_209 rfl (lv_at hl 0 rfl) ?_
  refine lv_iload hx hb dL_law_210 (lv_at hl 4 rfl) ?_
  refine lv_iconst (v := 1) hx hb dL_law_212 (by decide) ?_
  refine lv_iadd hx hb dL_law_213 ?_
  refine r_sld hx hb hX hbl hbA hw hq1 dL_law_214 ?_
  refine r_cvI (As := [.int q1]) ⟨hx, hb, hml, hown, hts⟩ (c_X7_lay l G hM0 hp) (cw_L_44 hts ⟨Nat.le_of_ble_eq_true rfl, Nat.le_of_ble_eq_true rfl⟩) hw (hw.recv hM0.1 rfl rfl) rfl rfl hl.1 (Nat.le_of_ble_eq_true rfl) hC0 dL_law_215 (fun r_4 I_5 L_6 H locs hp hw => ?_)
  obtain ⟨heq, hp⟩ := hp
  refine lv_icmp_eq (tgt := 975) hx hb dL_law_218 (by decide) (fun hc_7 => ?_) (fun hc_7 => absurd (heq) hc_7)
  exact W.widen (by omega) (by omega) (hB _ _ _ _ _ _ _ hp hw (lv_sub hl [0, 1, 2, 3, 4] rfl))
set_option maxHeartbeats 4000000 in
set_option maxRecDepth 100000 in
theorem lawc_glue {p : Program} {l : Launch} {e : Env} {s : State} {m : MethodId} {below : List Frame} {meth : Method} {c : Code} {b Ln : Nat} {xs : Nat → Int32} {G : GX} {x4 q1 q2 q3 q4 q5 : Int32} {Q : State → Prop} {Rel : SH → (Nat → Option Nat) → MI → ML → Prop} {x mm o : Nat} {Sh : SH} {F : Nat → Option Nat} {I : MI} {L : ML} {H : Heap} {locs : List Loc} {ls : Array Slot} {C S : Nat} (LC : LCx p l s m c b Ln xs G x4 q1 q2 q3 q4 q5) (hC : C + 134 ≤ 600384 ∧ S + 2160 ≤ 7291370)
    (hB : ∀ (Sh : SH) (F : Nat → Option Nat) (I : MI) (L : ML) (H : Heap) (locs : List Loc) (ls : Array Slot), Rel Sh F I L → mW G Sh s I L H locs → lv_has ls 8 [(0, .ref b), (1, .ref x), (2, .ref mm), (3, .ref o), (4, .int x4)] → W p l e room_1 s m #[Value.ref b] below meth c H locs (C + 134) (S + 2160) Q (F0 m 975 ls []))
    (hX0 : isX G Sh x F) (hM0 : isModel G Sh mm) (hO0 : Sh o = some (sJ G 1)) (hp : lawS_glue G x mm o Rel Sh F I L) (hw : mW G Sh s I L H locs) (hl : lv_has ls 8 [(0, .ref b), (1, .ref x), (2, .ref mm), (3, .ref o), (4, .int x4)]) : W p l e room_1 s m #[Value.ref b] below meth c H locs C S Q (F0 m 223 ls []) := by
  obtain ⟨hx, hb, hml, hown, hts, hX, hbl, hbA, hE, hST, hq1, hq2, hq3, hq4, hq5⟩ := LC
  obtain ⟨hC9, hS9⟩ := hC
  have hC0 : C ≤ room_1.cells ∧ S ≤ room_1.slots := ⟨by show C ≤ 600384; omega, by show S ≤ 7291370; omega⟩
  have hC1 : C + 1 ≤ room_1.cells ∧ S + 6 ≤ room_1.slots := ⟨by show C + 1 ≤ 600384; omega, by show S + 6 ≤ 7291370; omega⟩
  have hCT : C + 134 ≤ room_1.cells ∧ S + 2160 ≤ room_1.slots := ⟨hC9, hS9⟩
  unfold lawS_glue at hp
  refine lv_aload_n hx hb dL_law_223 rfl (lv_at hl 1 rfl) ?_
  refine lv_aload_n hx hb dL_law_224 rfl (lv_at hl 0 rfl) ?_
  refine lv_iload hx hb dL_law_225 (lv_at hl 4 rfl) ?_
  refine lv_iconst (v := 1) hx hb dL_law_227 (by decide) ?_
  refine lv_iadd hx hb dL_law_228 ?_
  refine r_sld hx hb hX hbl hbA hw hq1 dL_law_229 ?_
  refine lv_aload_n hx hb dL_law_230 rfl (lv_at hl 0 rfl) ?_
  refine lv_iload hx hb dL_law_231 (lv_at hl 4 rfl) ?_
  refine lv_iconst (v := 2) hx hb dL_law_233 (by decide) ?_
  refine lv_iadd hx hb dL_law_234 ?_
  refine r_sld hx hb hX hbl hbA hw hq2 dL_law_235 ?_
  refine lv_aload_n hx hb dL_law_236 rfl (lv_at hl 0 rfl) ?_
  refine lv_iload hx hb dL_law_237 (lv_at hl 4 rfl) ?_
  refine lv_iconst (v := 3) hx hb dL_law_239 (by decide) ?_
  refine lv_iadd hx hb dL_law_240 ?_
  refine r_sld hx hb hX hbl hbA hw hq3 dL_law_241 ?_
  refine lv_aload_n hx hb dL_law_242 rfl (lv_at hl 0 rfl) ?_
  refine lv_iload hx hb dL_law_243 (lv_at hl 4 rfl) ?_
  refine lv_iconst (v := 4) hx hb dL_law_245 (by decide) ?_
  refine lv_iadd hx hb dL_law_246 ?_
  refine r_sld hx hb hX hbl hbA hw hq4 dL_law_247 ?_
  refine lv_aload_n hx hb dL_law_248 rfl (lv_at hl 0 rfl) ?_
  refine lv_iload hx hb dL_law_249 (lv_at hl 4 rfl) ?_
  refine lv_iconst (v := 5) hx hb dL_law_251 (by decide) ?_
  refine lv_iadd hx hb dL_law_252 ?_
  refine r_sld hx hb hX hbl hbA hw hq5 dL_law_253 ?_
  refine r_cvI (As := [.int q1, .int q2, .int q3, .int q4, .int q5]) ⟨hx, hb, hml, hown, hts⟩ (c_X6_glue l G hX0 (hp q1 q2 q3 q4 q5)) (cw_L_45 hts ⟨Nat.le_of_ble_eq_true rfl, Nat.le_of_ble_eq_true rfl⟩) hw (hw.recv hX0.1 rfl rfl) rfl rfl hl.1 (Nat.le_of_ble_eq_true rfl) hC0 dL_law_254 (fun r_1 I_2 L_3 H locs hp hw => ?_)
  refine lv_aload_n hx hb dL_law_257 rfl (lv_at hl 2 rfl) ?_
  refine lv_aload_n hx hb dL_law_258 rfl (lv_at hl 0 rfl) ?_
  refine lv_iload hx hb dL_law_259 (lv_at hl 4 rfl) ?_
  refine lv_iconst (v := 1) hx hb dL_law_261 (by decide) ?_
  refine lv_iadd hx hb dL_law_262 ?_
  refine r_sld hx hb hX hbl hbA hw hq1 dL_law_263 ?_
  refine lv_aload_n hx hb dL_law_264 rfl (lv_at hl 0 rfl) ?_
  refine lv_iload hx hb dL_law_265 (lv_at hl 4 rfl) ?_
  refine lv_iconst (v := 2) hx hb dL_law_267 (by decide) ?_
  refine lv_iadd hx hb dL_law_268 ?_
  refine r_sld hx hb hX hbl hbA hw hq2 dL_law_269 ?_
  refine lv_aload_n hx hb dL_law_270 rfl (lv_at hl 0 rfl) ?_
  refine lv_iload hx hb dL_law_271 (lv_at hl 4 rfl) ?_
  refine lv_iconst (v := 3) hx hb dL_law_273 (by decide) ?_
  refine lv_iadd hx hb dL_law_274 ?_
  refine r_sld hx hb hX hbl hbA hw hq3 dL_law_275 ?_
  refine lv_aload_n hx hb dL_law_276 rfl (lv_at hl 0 rfl) ?_
  refine lv_iload hx hb dL_law_277 (lv_at hl 4 rfl) ?_
  refine lv_iconst (v := 4) hx hb dL_law_279 (by decide) ?_
  refine lv_iadd hx hb dL_law_280 ?_
  refine r_sld hx hb hX hbl hbA hw hq4 dL_law_281 ?_
  refine lv_aload_n hx hb dL_law_282 rfl (lv_at hl 0 rfl) ?_
  refine lv_iload hx hb dL_law_283 (lv_at hl 4 rfl) ?_
  refine lv_iconst (v := 5) hx hb dL_law_285 (by decide) ?_
  refine lv_iadd hx hb dL_law_286 ?_
  refine r_sld hx hb hX hbl hbA hw hq5 dL_law_287 ?_
  refine r_cvI (As := [.int q1, .int q2, .int q3, .int q4, .int q5]) ⟨hx, hb, hml, hown, hts⟩ (c_X7_glue l G hM0 hp) (cw_L_49 hts ⟨Nat.le_of_ble_eq_true rfl, Nat.le_of_ble_eq_true rfl⟩) hw (hw.recv hM0.1 rfl rfl) rfl rfl hl.1 (Nat.le_of_ble_eq_true rfl) hC0 dL_law_288 (fun r_4 I_5 L_6 H locs hp hw => ?_)
  obtain ⟨heq, hp⟩ := hp
  refine lv_icmp_eq (tgt := 975) hx hb dL_law_291 (by decide) (fun hc_7 => ?_) (fun hc_7 => absurd (heq) hc_7)
  exact W.widen (by omega) (by omega) (hB _ _ _ _ _ _ _ hp hw (lv_sub hl [0, 1, 2, 3, 4] rfl))
set_option maxHeartbeats 4000000 in
set_option maxRecDepth 100000 in
theorem lawc_shrink {p : Program} {l : Launch} {e : Env} {s : State} {m : MethodId} {below : List Frame} {meth : Method} {c : Code} {b Ln : Nat} {xs : Nat → Int32} {G : GX} {x4 q1 q2 q3 q4 q5 : Int32} {Q : State → Prop} {Rel : SH → (Nat → Option Nat) → MI → ML → Prop} {x mm o : Nat} {Sh : SH} {F : Nat → Option Nat} {I : MI} {L : ML} {H : Heap} {locs : List Loc} {ls : Array Slot} {C S : Nat} (LC : LCx p l s m c b Ln xs G x4 q1 q2 q3 q4 q5) (hC : C + 134 ≤ 600384 ∧ S + 2160 ≤ 7291370)
    (hB : ∀ (Sh : SH) (F : Nat → Option Nat) (I : MI) (L : ML) (H : Heap) (locs : List Loc) (ls : Array Slot), Rel Sh F I L → mW G Sh s I L H locs → lv_has ls 8 [(0, .ref b), (1, .ref x), (2, .ref mm), (3, .ref o), (4, .int x4)] → W p l e room_1 s m #[Value.ref b] below meth c H locs (C + 134) (S + 2160) Q (F0 m 975 ls []))
    (hX0 : isX G Sh x F) (hM0 : isModel G Sh mm) (hO0 : Sh o = some (sJ G 1)) (hp : lawS_shrink G x mm o Rel Sh F I L) (hw : mW G Sh s I L H locs) (hl : lv_has ls 8 [(0, .ref b), (1, .ref x), (2, .ref mm), (3, .ref o), (4, .int x4)]) : W p l e room_1 s m #[Value.ref b] below meth c H locs C S Q (F0 m 296 ls []) := by
  obtain ⟨hx, hb, hml, hown, hts, hX, hbl, hbA, hE, hST, hq1, hq2, hq3, hq4, hq5⟩ := LC
  obtain ⟨hC9, hS9⟩ := hC
  have hC0 : C ≤ room_1.cells ∧ S ≤ room_1.slots := ⟨by show C ≤ 600384; omega, by show S ≤ 7291370; omega⟩
  have hC1 : C + 1 ≤ room_1.cells ∧ S + 6 ≤ room_1.slots := ⟨by show C + 1 ≤ 600384; omega, by show S + 6 ≤ 7291370; omega⟩
  have hCT : C + 134 ≤ room_1.cells ∧ S + 2160 ≤ room_1.slots := ⟨hC9, hS9⟩
  unfold lawS_shrink at hp
  refine lv_aload_n hx hb dL_law_296 rfl (lv_at hl 1 rfl) ?_
  refine lv_aload_n hx hb dL_law_297 rfl (lv_at hl 0 rfl) ?_
  refine lv_iload hx hb dL_law_298 (lv_at hl 4 rfl) ?_
  refine lv_iconst (v := 1) hx hb dL_law_300 (by decide) ?_
  refine lv_iadd hx hb dL_law_301 ?_
  refine r_sld hx hb hX hbl hbA hw hq1 dL_law_302 ?_
  refine lv_aload_n hx hb dL_law_303 rfl (lv_at hl 0 rfl) ?_
  refine lv_iload hx hb dL_law_304 (lv_at hl 4 rfl) ?_
  refine lv_iconst (v := 2) hx hb dL_law_306 (by decide) ?_
  refine lv_iadd hx hb dL_law_307 ?_
  refine r_sld hx hb hX hbl hbA hw hq2 dL_law_308 ?_
  refine lv_aload_n hx hb dL_law_309 rfl (lv_at hl 0 rfl) ?_
  refine lv_iload hx hb dL_law_310 (lv_at hl 4 rfl) ?_
  refine lv_iconst (v := 3) hx hb dL_law_312 (by decide) ?_
  refine lv_iadd hx hb dL_law_313 ?_
  refine r_sld hx hb hX hbl hbA hw hq3 dL_law_314 ?_
  refine lv_aload_n hx hb dL_law_315 rfl (lv_at hl 0 rfl) ?_
  refine lv_iload hx hb dL_law_316 (lv_at hl 4 rfl) ?_
  refine lv_iconst (v := 4) hx hb dL_law_318 (by decide) ?_
  refine lv_iadd hx hb dL_law_319 ?_
  refine r_sld hx hb hX hbl hbA hw hq4 dL_law_320 ?_
  refine r_cvI (As := [.int q1, .int q2, .int q3, .int q4]) ⟨hx, hb, hml, hown, hts⟩ (c_X6_shrink l G hX0 (hp q1 q2 q3 q4)) (cw_L_50 hts ⟨Nat.le_of_ble_eq_true rfl, Nat.le_of_ble_eq_true rfl⟩) hw (hw.recv hX0.1 rfl rfl) rfl rfl hl.1 (Nat.le_of_ble_eq_true rfl) hC0 dL_law_321 (fun r_1 I_2 L_3 H locs hp hw => ?_)
  refine lv_aload_n hx hb dL_law_324 rfl (lv_at hl 2 rfl) ?_
  refine lv_aload_n hx hb dL_law_325 rfl (lv_at hl 0 rfl) ?_
  refine lv_iload hx hb dL_law_326 (lv_at hl 4 rfl) ?_
  refine lv_iconst (v := 1) hx hb dL_law_328 (by decide) ?_
  refine lv_iadd hx hb dL_law_329 ?_
  refine r_sld hx hb hX hbl hbA hw hq1 dL_law_330 ?_
  refine lv_aload_n hx hb dL_law_331 rfl (lv_at hl 0 rfl) ?_
  refine lv_iload hx hb dL_law_332 (lv_at hl 4 rfl) ?_
  refine lv_iconst (v := 2) hx hb dL_law_334 (by decide) ?_
  refine lv_iadd hx hb dL_law_335 ?_
  refine r_sld hx hb hX hbl hbA hw hq2 dL_law_336 ?_
  refine lv_aload_n hx hb dL_law_337 rfl (lv_at hl 0 rfl) ?_
  refine lv_iload hx hb dL_law_338 (lv_at hl 4 rfl) ?_
  refine lv_iconst (v := 3) hx hb dL_law_340 (by decide) ?_
  refine lv_iadd hx hb dL_law_341 ?_
  refine r_sld hx hb hX hbl hbA hw hq3 dL_law_342 ?_
  refine lv_aload_n hx hb dL_law_343 rfl (lv_at hl 0 rfl) ?_
  refine lv_iload hx hb dL_law_344 (lv_at hl 4 rfl) ?_
  refine lv_iconst (v := 4) hx hb dL_law_346 (by decide) ?_
  refine lv_iadd hx hb dL_law_347 ?_
  refine r_sld hx hb hX hbl hbA hw hq4 dL_law_348 ?_
  refine r_cvI (As := [.int q1, .int q2, .int q3, .int q4]) ⟨hx, hb, hml, hown, hts⟩ (c_X7_shrink l G hM0 hp) (cw_L_53 hts ⟨Nat.le_of_ble_eq_true rfl, Nat.le_of_ble_eq_true rfl⟩) hw (hw.recv hM0.1 rfl rfl) rfl rfl hl.1 (Nat.le_of_ble_eq_true rfl) hC0 dL_law_349 (fun r_4 I_5 L_6 H locs hp hw => ?_)
  obtain ⟨heq, hp⟩ := hp
  refine lv_icmp_eq (tgt := 975) hx hb dL_law_352 (by decide) (fun hc_7 => ?_) (fun hc_7 => absurd (heq) hc_7)
  exact W.widen (by omega) (by omega) (hB _ _ _ _ _ _ _ hp hw (lv_sub hl [0, 1, 2, 3, 4] rfl))
set_option maxHeartbeats 4000000 in
set_option maxRecDepth 100000 in
theorem lawc_row {p : Program} {l : Launch} {e : Env} {s : State} {m : MethodId} {below : List Frame} {meth : Method} {c : Code} {b Ln : Nat} {xs : Nat → Int32} {G : GX} {x4 q1 q2 q3 q4 q5 : Int32} {Q : State → Prop} {Rel : SH → (Nat → Option Nat) → MI → ML → Prop} {x mm o : Nat} {Sh : SH} {F : Nat → Option Nat} {I : MI} {L : ML} {H : Heap} {locs : List Loc} {ls : Array Slot} {C S : Nat} (LC : LCx p l s m c b Ln xs G x4 q1 q2 q3 q4 q5) (hC : C + 134 ≤ 600384 ∧ S + 2160 ≤ 7291370)
    (hB : ∀ (Sh : SH) (F : Nat → Option Nat) (I : MI) (L : ML) (H : Heap) (locs : List Loc) (ls : Array Slot), Rel Sh F I L → mW G Sh s I L H locs → lv_has ls 8 [(0, .ref b), (1, .ref x), (2, .ref mm), (3, .ref o), (4, .int x4)] → W p l e room_1 s m #[Value.ref b] below meth c H locs (C + 134) (S + 2160) Q (F0 m 975 ls []))
    (hX0 : isX G Sh x F) (hM0 : isModel G Sh mm) (hO0 : Sh o = some (sJ G 1)) (hp : lawS_row G x mm o Rel Sh F I L) (hw : mW G Sh s I L H locs) (hl : lv_has ls 8 [(0, .ref b), (1, .ref x), (2, .ref mm), (3, .ref o), (4, .int x4)]) : W p l e room_1 s m #[Value.ref b] below meth c H locs C S Q (F0 m 357 ls []) := by
  obtain ⟨hx, hb, hml, hown, hts, hX, hbl, hbA, hE, hST, hq1, hq2, hq3, hq4, hq5⟩ := LC
  obtain ⟨hC9, hS9⟩ := hC
  have hC0 : C ≤ room_1.cells ∧ S ≤ room_1.slots := ⟨by show C ≤ 600384; omega, by show S ≤ 7291370; omega⟩
  have hC1 : C + 1 ≤ room_1.cells ∧ S + 6 ≤ room_1.slots := ⟨by show C + 1 ≤ 600384; omega, by show S + 6 ≤ 7291370; omega⟩
  have hCT : C + 134 ≤ room_1.cells ∧ S + 2160 ≤ room_1.slots := ⟨hC9, hS9⟩
  unfold lawS_row at hp
  refine lv_aload_n hx hb dL_law_357 rfl (lv_at hl 1 rfl) ?_
  refine lv_aload_n hx hb dL_law_358 rfl (lv_at hl 0 rfl) ?_
  refine lv_iload hx hb dL_law_359 (lv_at hl 4 rfl) ?_
  refine lv_iconst (v := 1) hx hb dL_law_361 (by decide) ?_
  refine lv_iadd hx hb dL_law_362 ?_
  refine r_sld hx hb hX hbl hbA hw hq1 dL_law_363 ?_
  refine r_cvI (As := [.int q1]) ⟨hx, hb, hml, hown, hts⟩ (c_X6_row l G hX0 (hp q1)) (cw_L_54 hts ⟨Nat.le_of_ble_eq_true rfl, Nat.le_of_ble_eq_true rfl⟩) hw (hw.recv hX0.1 rfl rfl) rfl rfl hl.1 (Nat.le_of_ble_eq_true rfl) hC0 dL_law_364 (fun r_1 I_2 L_3 H locs hp hw => ?_)
  refine lv_aload_n hx hb dL_law_367 rfl (lv_at hl 2 rfl) ?_
  refine lv_aload_n hx hb dL_law_368 rfl (lv_at hl 0 rfl) ?_
  refine lv_iload hx hb dL_law_369 (lv_at hl 4 rfl) ?_
  refine lv_iconst (v := 1) hx hb dL_law_371 (by decide) ?_
  refine lv_iadd hx hb dL_law_372 ?_
  refine r_sld hx hb hX hbl hbA hw hq1 dL_law_373 ?_
  refine r_cvI (As := [.int q1]) ⟨hx, hb, hml, hown, hts⟩ (c_X7_row l G hM0 hp) (cw_L_57 hts ⟨Nat.le_of_ble_eq_true rfl, Nat.le_of_ble_eq_true rfl⟩) hw (hw.recv hM0.1 rfl rfl) rfl rfl hl.1 (Nat.le_of_ble_eq_true rfl) hC0 dL_law_374 (fun r_4 I_5 L_6 H locs hp hw => ?_)
  obtain ⟨heq, hp⟩ := hp
  refine lv_icmp_eq (tgt := 975) hx hb dL_law_377 (by decide) (fun hc_7 => ?_) (fun hc_7 => absurd (heq) hc_7)
  exact W.widen (by omega) (by omega) (hB _ _ _ _ _ _ _ hp hw (lv_sub hl [0, 1, 2, 3, 4] rfl))
set_option maxHeartbeats 4000000 in
set_option maxRecDepth 100000 in
theorem lawc_entry {p : Program} {l : Launch} {e : Env} {s : State} {m : MethodId} {below : List Frame} {meth : Method} {c : Code} {b Ln : Nat} {xs : Nat → Int32} {G : GX} {x4 q1 q2 q3 q4 q5 : Int32} {Q : State → Prop} {Rel : SH → (Nat → Option Nat) → MI → ML → Prop} {x mm o : Nat} {Sh : SH} {F : Nat → Option Nat} {I : MI} {L : ML} {H : Heap} {locs : List Loc} {ls : Array Slot} {C S : Nat} (LC : LCx p l s m c b Ln xs G x4 q1 q2 q3 q4 q5) (hC : C + 134 ≤ 600384 ∧ S + 2160 ≤ 7291370)
    (hB : ∀ (Sh : SH) (F : Nat → Option Nat) (I : MI) (L : ML) (H : Heap) (locs : List Loc) (ls : Array Slot), Rel Sh F I L → mW G Sh s I L H locs → lv_has ls 8 [(0, .ref b), (1, .ref x), (2, .ref mm), (3, .ref o), (4, .int x4)] → W p l e room_1 s m #[Value.ref b] below meth c H locs (C + 134) (S + 2160) Q (F0 m 975 ls []))
    (hX0 : isX G Sh x F) (hM0 : isModel G Sh mm) (hO0 : Sh o = some (sJ G 1)) (hp : lawS_entry G x mm o Rel Sh F I L) (hw : mW G Sh s I L H locs) (hl : lv_has ls 8 [(0, .ref b), (1, .ref x), (2, .ref mm), (3, .ref o), (4, .int x4)]) : W p l e room_1 s m #[Value.ref b] below meth c H locs C S Q (F0 m 382 ls []) := by
  obtain ⟨hx, hb, hml, hown, hts, hX, hbl, hbA, hE, hST, hq1, hq2, hq3, hq4, hq5⟩ := LC
  obtain ⟨hC9, hS9⟩ := hC
  have hC0 : C ≤ room_1.cells ∧ S ≤ room_1.slots := ⟨by show C ≤ 600384; omega, by show S ≤ 7291370; omega⟩
  have hC1 : C + 1 ≤ room_1.cells ∧ S + 6 ≤ room_1.slots := ⟨by show C + 1 ≤ 600384; omega, by show S + 6 ≤ 7291370; omega⟩
  have hCT : C + 134 ≤ room_1.cells ∧ S + 2160 ≤ room_1.slots := ⟨hC9, hS9⟩
  unfold lawS_entry at hp
  refine lv_aload_n hx hb dL_law_382 rfl (lv_at hl 1 rfl) ?_
  refine lv_aload_n hx hb dL_law_383 rfl (lv_at hl 0 rfl) ?_
  refine lv_iload hx hb dL_law_384 (lv_at hl 4 rfl) ?_
  refine lv_iconst (v := 1) hx hb dL_law_386 (by decide) ?_
  refine lv_iadd hx hb dL_law_387 ?_
  refine r_sld hx hb hX hbl hbA hw hq1 dL_law_388 ?_
  refine lv_aload_n hx hb dL_law_389 rfl (lv_at hl 0 rfl) ?_
  refine lv_iload hx hb dL_law_390 (lv_at hl 4 rfl) ?_
  refine lv_iconst (v := 2) hx hb dL_law_392 (by decide) ?_
  refine lv_iadd hx hb dL_law_393 ?_
  refine r_sld hx hb hX hbl hbA hw hq2 dL_law_394 ?_
  refine lv_aload_n hx hb dL_law_395 rfl (lv_at hl 0 rfl) ?_
  refine lv_iload hx hb dL_law_396 (lv_at hl 4 rfl) ?_
  refine lv_iconst (v := 3) hx hb dL_law_398 (by decide) ?_
  refine lv_iadd hx hb dL_law_399 ?_
  refine r_sld hx hb hX hbl hbA hw hq3 dL_law_400 ?_
  refine lv_aload_n hx hb dL_law_401 rfl (lv_at hl 0 rfl) ?_
  refine lv_iload hx hb dL_law_402 (lv_at hl 4 rfl) ?_
  refine lv_iconst (v := 4) hx hb dL_law_404 (by decide) ?_
  refine lv_iadd hx hb dL_law_405 ?_
  refine r_sld hx hb hX hbl hbA hw hq4 dL_law_406 ?_
  refine lv_if_eq (tgt := 414) hx hb dL_law_407 (by decide) (fun hc_1 => ?_) (fun hc_1 => ?_)
  · skip
    refine lv_iconst (v := 0) hx hb dL_law_414 (by decide) ?_
    refine r_cvI (As := [.int q1, .int q2, .int q3, .int (0 : Int32)]) ⟨hx, hb, hml, hown, hts⟩ (c_X6_entry l G hX0 (hp q1 q2 q3 (0 : Int32) (Or.inl rfl))) (cw_L_58 hts ⟨Nat.le_of_ble_eq_true rfl, Nat.le_of_ble_eq_true rfl⟩) hw (hw.recv hX0.1 rfl rfl) rfl rfl hl.1 (Nat.le_of_ble_eq_true rfl) hC0 dL_law_415 (fun r_2 I_3 L_4 H locs hp hw => ?_)
    refine lv_aload_n hx hb dL_law_418 rfl (lv_at hl 2 rfl) ?_
    refine lv_aload_n hx hb dL_law_419 rfl (lv_at hl 0 rfl) ?_
    refine lv_iload hx hb dL_law_420 (lv_at hl 4 rfl) ?_
    refine lv_iconst (v := 1) hx hb dL_law_422 (by decide) ?_
    refine lv_iadd hx hb dL_law_423 ?_
    refine r_sld hx hb hX hbl hbA hw hq1 dL_law_424 ?_
    refine lv_aload_n hx hb dL_law_425 rfl (lv_at hl 0 rfl) ?_
    refine lv_iload hx hb dL_law_426 (lv_at hl 4 rfl) ?_
    refine lv_iconst (v := 2) hx hb dL_law_428 (by decide) ?_
    refine lv_iadd hx hb dL_law_429 ?_
    refine r_sld hx hb hX hbl hbA hw hq2 dL_law_430 ?_
    refine lv_aload_n hx hb dL_law_431 rfl (lv_at hl 0 rfl) ?_
    refine lv_iload hx hb dL_law_432 (lv_at hl 4 rfl) ?_
    refine lv_iconst (v := 3) hx hb dL_law_434 (by decide) ?_
    refine lv_iadd hx hb dL_law_435 ?_
    refine r_sld hx hb hX hbl hbA hw hq3 dL_law_436 ?_
    refine lv_aload_n hx hb dL_law_437 rfl (lv_at hl 0 rfl) ?_
    refine lv_iload hx hb dL_law_438 (lv_at hl 4 rfl) ?_
    refine lv_iconst (v := 4) hx hb dL_law_440 (by decide) ?_
    refine lv_iadd hx hb dL_law_441 ?_
    refine r_sld hx hb hX hbl hbA hw hq4 dL_law_442 ?_
    refine lv_if_eq (tgt := 450) hx hb dL_law_443 (by decide) (fun hc_5 => ?_) (fun hc_5 => ?_)
    · skip
      refine lv_iconst (v := 0) hx hb dL_law_450 (by decide) ?_
      refine r_cvI (As := [.int q1, .int q2, .int q3, .int (0 : Int32)]) ⟨hx, hb, hml, hown, hts⟩ (c_X7_entry l G hM0 hp) (cw_L_62 hts ⟨Nat.le_of_ble_eq_true rfl, Nat.le_of_ble_eq_true rfl⟩) hw (hw.recv hM0.1 rfl rfl) rfl rfl hl.1 (Nat.le_of_ble_eq_true rfl) hC0 dL_law_451 (fun r_6 I_7 L_8 H locs hp hw => ?_)
      obtain ⟨heq, hp⟩ := hp
      refine lv_icmp_eq (tgt := 975) hx hb dL_law_454 (by decide) (fun hc_9 => ?_) (fun hc_9 => absurd (heq) hc_9)
      exact W.widen (by omega) (by omega) (hB _ _ _ _ _ _ _ hp hw (lv_sub hl [0, 1, 2, 3, 4] rfl))
    · exact absurd hc_1 hc_5
  · skip
    refine lv_iconst (v := 1) hx hb dL_law_410 (by decide) ?_
    refine lv_goto (tgt := 415) hx hb dL_law_411 (by decide) ?_
    refine r_cvI (As := [.int q1, .int q2, .int q3, .int (1 : Int32)]) ⟨hx, hb, hml, hown, hts⟩ (c_X6_entry l G hX0 (hp q1 q2 q3 (1 : Int32) (Or.inr rfl))) (cw_L_58 hts ⟨Nat.le_of_ble_eq_true rfl, Nat.le_of_ble_eq_true rfl⟩) hw (hw.recv hX0.1 rfl rfl) rfl rfl hl.1 (Nat.le_of_ble_eq_true rfl) hC0 dL_law_415 (fun r_10 I_11 L_12 H locs hp hw => ?_)
    refine lv_aload_n hx hb dL_law_418 rfl (lv_at hl 2 rfl) ?_
    refine lv_aload_n hx hb dL_law_419 rfl (lv_at hl 0 rfl) ?_
    refine lv_iload hx hb dL_law_420 (lv_at hl 4 rfl) ?_
    refine lv_iconst (v := 1) hx hb dL_law_422 (by decide) ?_
    refine lv_iadd hx hb dL_law_423 ?_
    refine r_sld hx hb hX hbl hbA hw hq1 dL_law_424 ?_
    refine lv_aload_n hx hb dL_law_425 rfl (lv_at hl 0 rfl) ?_
    refine lv_iload hx hb dL_law_426 (lv_at hl 4 rfl) ?_
    refine lv_iconst (v := 2) hx hb dL_law_428 (by decide) ?_
    refine lv_iadd hx hb dL_law_429 ?_
    refine r_sld hx hb hX hbl hbA hw hq2 dL_law_430 ?_
    refine lv_aload_n hx hb dL_law_431 rfl (lv_at hl 0 rfl) ?_
    refine lv_iload hx hb dL_law_432 (lv_at hl 4 rfl) ?_
    refine lv_iconst (v := 3) hx hb dL_law_434 (by decide) ?_
    refine lv_iadd hx hb dL_law_435 ?_
    refine r_sld hx hb hX hbl hbA hw hq3 dL_law_436 ?_
    refine lv_aload_n hx hb dL_law_437 rfl (lv_at hl 0 rfl) ?_
    refine lv_iload hx hb dL_law_438 (lv_at hl 4 rfl) ?_
    refine lv_iconst (v := 4) hx hb dL_law_440 (by decide) ?_
    refine lv_iadd hx hb dL_law_441 ?_
    refine r_sld hx hb hX hbl hbA hw hq4 dL_law_442 ?_
    refine lv_if_eq (tgt := 450) hx hb dL_law_443 (by decide) (fun hc_13 => ?_) (fun hc_13 => ?_)
    · exact absurd hc_13 hc_1
    · skip
      refine lv_iconst (v := 1) hx hb dL_law_446 (by decide) ?_
      refine lv_goto (tgt := 451) hx hb dL_law_447 (by decide) ?_
      refine r_cvI (As := [.int q1, .int q2, .int q3, .int (1 : Int32)]) ⟨hx, hb, hml, hown, hts⟩ (c_X7_entry l G hM0 hp) (cw_L_62 hts ⟨Nat.le_of_ble_eq_true rfl, Nat.le_of_ble_eq_true rfl⟩) hw (hw.recv hM0.1 rfl rfl) rfl rfl hl.1 (Nat.le_of_ble_eq_true rfl) hC0 dL_law_451 (fun r_14 I_15 L_16 H locs hp hw => ?_)
      obtain ⟨heq, hp⟩ := hp
      refine lv_icmp_eq (tgt := 975) hx hb dL_law_454 (by decide) (fun hc_17 => ?_) (fun hc_17 => absurd (heq) hc_17)
      exact W.widen (by omega) (by omega) (hB _ _ _ _ _ _ _ hp hw (lv_sub hl [0, 1, 2, 3, 4] rfl))
set_option maxHeartbeats 4000000 in
set_option maxRecDepth 100000 in
theorem lawc_nest {p : Program} {l : Launch} {e : Env} {s : State} {m : MethodId} {below : List Frame} {meth : Method} {c : Code} {b Ln : Nat} {xs : Nat → Int32} {G : GX} {x4 q1 q2 q3 q4 q5 : Int32} {Q : State → Prop} {Rel : SH → (Nat → Option Nat) → MI → ML → Prop} {x mm o : Nat} {Sh : SH} {F : Nat → Option Nat} {I : MI} {L : ML} {H : Heap} {locs : List Loc} {ls : Array Slot} {C S : Nat} (LC : LCx p l s m c b Ln xs G x4 q1 q2 q3 q4 q5) (hC : C + 134 ≤ 600384 ∧ S + 2160 ≤ 7291370)
    (hB : ∀ (Sh : SH) (F : Nat → Option Nat) (I : MI) (L : ML) (H : Heap) (locs : List Loc) (ls : Array Slot), Rel Sh F I L → mW G Sh s I L H locs → lv_has ls 8 [(0, .ref b), (1, .ref x), (2, .ref mm), (3, .ref o), (4, .int x4)] → W p l e room_1 s m #[Value.ref b] below meth c H locs (C + 134) (S + 2160) Q (F0 m 975 ls []))
    (hX0 : isX G Sh x F) (hM0 : isModel G Sh mm) (hO0 : Sh o = some (sJ G 1)) (hp : lawS_nest G x mm o Rel Sh F I L) (hw : mW G Sh s I L H locs) (hl : lv_has ls 8 [(0, .ref b), (1, .ref x), (2, .ref mm), (3, .ref o), (4, .int x4)]) : W p l e room_1 s m #[Value.ref b] below meth c H locs C S Q (F0 m 459 ls []) := by
  obtain ⟨hx, hb, hml, hown, hts, hX, hbl, hbA, hE, hST, hq1, hq2, hq3, hq4, hq5⟩ := LC
  obtain ⟨hC9, hS9⟩ := hC
  have hC0 : C ≤ room_1.cells ∧ S ≤ room_1.slots := ⟨by show C ≤ 600384; omega, by show S ≤ 7291370; omega⟩
  have hC1 : C + 1 ≤ room_1.cells ∧ S + 6 ≤ room_1.slots := ⟨by show C + 1 ≤ 600384; omega, by show S + 6 ≤ 7291370; omega⟩
  have hCT : C + 134 ≤ room_1.cells ∧ S + 2160 ≤ room_1.slots := ⟨hC9, hS9⟩
  unfold lawS_nest at hp
  refine lv_aload_n hx hb dL_law_459 rfl (lv_at hl 1 rfl) ?_
  refine lv_aload_n hx hb dL_law_460 rfl (lv_at hl 0 rfl) ?_
  refine lv_iload hx hb dL_law_461 (lv_at hl 4 rfl) ?_
  refine lv_iconst (v := 1) hx hb dL_law_463 (by decide) ?_
  refine lv_iadd hx hb dL_law_464 ?_
  refine r_sld hx hb hX hbl hbA hw hq1 dL_law_465 ?_
  refine lv_aload_n hx hb dL_law_466 rfl (lv_at hl 0 rfl) ?_
  refine lv_iload hx hb dL_law_467 (lv_at hl 4 rfl) ?_
  refine lv_iconst (v := 2) hx hb dL_law_469 (by decide) ?_
  refine lv_iadd hx hb dL_law_470 ?_
  refine r_sld hx hb hX hbl hbA hw hq2 dL_law_471 ?_
  refine lv_aload_n hx hb dL_law_472 rfl (lv_at hl 0 rfl) ?_
  refine lv_iload hx hb dL_law_473 (lv_at hl 4 rfl) ?_
  refine lv_iconst (v := 3) hx hb dL_law_475 (by decide) ?_
  refine lv_iadd hx hb dL_law_476 ?_
  refine r_sld hx hb hX hbl hbA hw hq3 dL_law_477 ?_
  refine r_cvI (As := [.int q1, .int q2, .int q3]) ⟨hx, hb, hml, hown, hts⟩ (c_X6_nest l G hX0 (hp q1 q2 q3)) (cw_L_63 hts ⟨Nat.le_of_ble_eq_true rfl, Nat.le_of_ble_eq_true rfl⟩) hw (hw.recv hX0.1 rfl rfl) rfl rfl hl.1 (Nat.le_of_ble_eq_true rfl) hC0 dL_law_478 (fun r_1 I_2 L_3 H locs hp hw => ?_)
  refine lv_aload_n hx hb dL_law_481 rfl (lv_at hl 2 rfl) ?_
  refine lv_aload_n hx hb dL_law_482 rfl (lv_at hl 0 rfl) ?_
  refine lv_iload hx hb dL_law_483 (lv_at hl 4 rfl) ?_
  refine lv_iconst (v := 1) hx hb dL_law_485 (by decide) ?_
  refine lv_iadd hx hb dL_law_486 ?_
  refine r_sld hx hb hX hbl hbA hw hq1 dL_law_487 ?_
  refine lv_aload_n hx hb dL_law_488 rfl (lv_at hl 0 rfl) ?_
  refine lv_iload hx hb dL_law_489 (lv_at hl 4 rfl) ?_
  refine lv_iconst (v := 2) hx hb dL_law_491 (by decide) ?_
  refine lv_iadd hx hb dL_law_492 ?_
  refine r_sld hx hb hX hbl hbA hw hq2 dL_law_493 ?_
  refine lv_aload_n hx hb dL_law_494 rfl (lv_at hl 0 rfl) ?_
  refine lv_iload hx hb dL_law_495 (lv_at hl 4 rfl) ?_
  refine lv_iconst (v := 3) hx hb dL_law_497 (by decide) ?_
  refine lv_iadd hx hb dL_law_498 ?_
  refine r_sld hx hb hX hbl hbA hw hq3 dL_law_499 ?_
  refine r_cvI (As := [.int q1, .int q2, .int q3]) ⟨hx, hb, hml, hown, hts⟩ (c_X7_nest l G hM0 hp) (cw_L_67 hts ⟨Nat.le_of_ble_eq_true rfl, Nat.le_of_ble_eq_true rfl⟩) hw (hw.recv hM0.1 rfl rfl) rfl rfl hl.1 (Nat.le_of_ble_eq_true rfl) hC0 dL_law_500 (fun r_4 I_5 L_6 H locs hp hw => ?_)
  obtain ⟨heq, hp⟩ := hp
  refine lv_icmp_eq (tgt := 975) hx hb dL_law_503 (by decide) (fun hc_7 => ?_) (fun hc_7 => absurd (heq) hc_7)
  exact W.widen (by omega) (by omega) (hB _ _ _ _ _ _ _ hp hw (lv_sub hl [0, 1, 2, 3, 4] rfl))
set_option maxHeartbeats 4000000 in
set_option maxRecDepth 100000 in
theorem lawc_end {p : Program} {l : Launch} {e : Env} {s : State} {m : MethodId} {below : List Frame} {meth : Method} {c : Code} {b Ln : Nat} {xs : Nat → Int32} {G : GX} {x4 q1 q2 q3 q4 q5 : Int32} {Q : State → Prop} {Rel : SH → (Nat → Option Nat) → MI → ML → Prop} {x mm o : Nat} {Sh : SH} {F : Nat → Option Nat} {I : MI} {L : ML} {H : Heap} {locs : List Loc} {ls : Array Slot} {C S : Nat} (LC : LCx p l s m c b Ln xs G x4 q1 q2 q3 q4 q5) (hC : C + 134 ≤ 600384 ∧ S + 2160 ≤ 7291370)
    (hB : ∀ (Sh : SH) (F : Nat → Option Nat) (I : MI) (L : ML) (H : Heap) (locs : List Loc) (ls : Array Slot), Rel Sh F I L → mW G Sh s I L H locs → lv_has ls 8 [(0, .ref b), (1, .ref x), (2, .ref mm), (3, .ref o), (4, .int x4)] → W p l e room_1 s m #[Value.ref b] below meth c H locs (C + 134) (S + 2160) Q (F0 m 975 ls []))
    (hX0 : isX G Sh x F) (hM0 : isModel G Sh mm) (hO0 : Sh o = some (sJ G 1)) (hp : lawS_end G x mm o Rel Sh F I L) (hw : mW G Sh s I L H locs) (hl : lv_has ls 8 [(0, .ref b), (1, .ref x), (2, .ref mm), (3, .ref o), (4, .int x4)]) : W p l e room_1 s m #[Value.ref b] below meth c H locs C S Q (F0 m 508 ls []) := by
  obtain ⟨hx, hb, hml, hown, hts, hX, hbl, hbA, hE, hST, hq1, hq2, hq3, hq4, hq5⟩ := LC
  obtain ⟨hC9, hS9⟩ := hC
  have hC0 : C ≤ room_1.cells ∧ S ≤ room_1.slots := ⟨by show C ≤ 600384; omega, by show S ≤ 7291370; omega⟩
  have hC1 : C + 1 ≤ room_1.cells ∧ S + 6 ≤ room_1.slots := ⟨by show C + 1 ≤ 600384; omega, by show S + 6 ≤ 7291370; omega⟩
  have hCT : C + 134 ≤ room_1.cells ∧ S + 2160 ≤ room_1.slots := ⟨hC9, hS9⟩
  unfold lawS_end at hp
  refine lv_aload_n hx hb dL_law_508 rfl (lv_at hl 1 rfl) ?_
  refine lv_aload_n hx hb dL_law_509 rfl (lv_at hl 0 rfl) ?_
  refine lv_iload hx hb dL_law_510 (lv_at hl 4 rfl) ?_
  refine lv_iconst (v := 1) hx hb dL_law_512 (by decide) ?_
  refine lv_iadd hx hb dL_law_513 ?_
  refine r_sld hx hb hX hbl hbA hw hq1 dL_law_514 ?_
  refine r_cvI (As := [.int q1]) ⟨hx, hb, hml, hown, hts⟩ (c_X6_end l G hX0 (hp q1)) (cw_L_68 hts ⟨Nat.le_of_ble_eq_true rfl, Nat.le_of_ble_eq_true rfl⟩) hw (hw.recv hX0.1 rfl rfl) rfl rfl hl.1 (Nat.le_of_ble_eq_true rfl) hC0 dL_law_515 (fun r_1 I_2 L_3 H locs hp hw => ?_)
  refine lv_aload_n hx hb dL_law_518 rfl (lv_at hl 2 rfl) ?_
  refine lv_aload_n hx hb dL_law_519 rfl (lv_at hl 0 rfl) ?_
  refine lv_iload hx hb dL_law_520 (lv_at hl 4 rfl) ?_
  refine lv_iconst (v := 1) hx hb dL_law_522 (by decide) ?_
  refine lv_iadd hx hb dL_law_523 ?_
  refine r_sld hx hb hX hbl hbA hw hq1 dL_law_524 ?_
  refine r_cvI (As := [.int q1]) ⟨hx, hb, hml, hown, hts⟩ (c_X7_end l G hM0 hp) (cw_L_71 hts ⟨Nat.le_of_ble_eq_true rfl, Nat.le_of_ble_eq_true rfl⟩) hw (hw.recv hM0.1 rfl rfl) rfl rfl hl.1 (Nat.le_of_ble_eq_true rfl) hC0 dL_law_525 (fun r_4 I_5 L_6 H locs hp hw => ?_)
  obtain ⟨heq, hp⟩ := hp
  refine lv_icmp_eq (tgt := 975) hx hb dL_law_528 (by decide) (fun hc_7 => ?_) (fun hc_7 => absurd (heq) hc_7)
  exact W.widen (by omega) (by omega) (hB _ _ _ _ _ _ _ hp hw (lv_sub hl [0, 1, 2, 3, 4] rfl))
set_option maxHeartbeats 4000000 in
set_option maxRecDepth 100000 in
theorem lawc_between {p : Program} {l : Launch} {e : Env} {s : State} {m : MethodId} {below : List Frame} {meth : Method} {c : Code} {b Ln : Nat} {xs : Nat → Int32} {G : GX} {x4 q1 q2 q3 q4 q5 : Int32} {Q : State → Prop} {Rel : SH → (Nat → Option Nat) → MI → ML → Prop} {x mm o : Nat} {Sh : SH} {F : Nat → Option Nat} {I : MI} {L : ML} {H : Heap} {locs : List Loc} {ls : Array Slot} {C S : Nat} (LC : LCx p l s m c b Ln xs G x4 q1 q2 q3 q4 q5) (hC : C + 134 ≤ 600384 ∧ S + 2160 ≤ 7291370)
    (hB : ∀ (Sh : SH) (F : Nat → Option Nat) (I : MI) (L : ML) (H : Heap) (locs : List Loc) (ls : Array Slot), Rel Sh F I L → mW G Sh s I L H locs → lv_has ls 8 [(0, .ref b), (1, .ref x), (2, .ref mm), (3, .ref o), (4, .int x4)] → W p l e room_1 s m #[Value.ref b] below meth c H locs (C + 134) (S + 2160) Q (F0 m 975 ls []))
    (hX0 : isX G Sh x F) (hM0 : isModel G Sh mm) (hO0 : Sh o = some (sJ G 1)) (hp : lawS_between G x mm o Rel Sh F I L) (hw : mW G Sh s I L H locs) (hl : lv_has ls 8 [(0, .ref b), (1, .ref x), (2, .ref mm), (3, .ref o), (4, .int x4)]) : W p l e room_1 s m #[Value.ref b] below meth c H locs C S Q (F0 m 533 ls []) := by
  obtain ⟨hx, hb, hml, hown, hts, hX, hbl, hbA, hE, hST, hq1, hq2, hq3, hq4, hq5⟩ := LC
  obtain ⟨hC9, hS9⟩ := hC
  have hC0 : C ≤ room_1.cells ∧ S ≤ room_1.slots := ⟨by show C ≤ 600384; omega, by show S ≤ 7291370; omega⟩
  have hC1 : C + 1 ≤ room_1.cells ∧ S + 6 ≤ room_1.slots := ⟨by show C + 1 ≤ 600384; omega, by show S + 6 ≤ 7291370; omega⟩
  have hCT : C + 134 ≤ room_1.cells ∧ S + 2160 ≤ room_1.slots := ⟨hC9, hS9⟩
  unfold lawS_between at hp
  refine lv_aload_n hx hb dL_law_533 rfl (lv_at hl 1 rfl) ?_
  refine lv_aload_n hx hb dL_law_534 rfl (lv_at hl 0 rfl) ?_
  refine lv_iload hx hb dL_law_535 (lv_at hl 4 rfl) ?_
  refine lv_iconst (v := 1) hx hb dL_law_537 (by decide) ?_
  refine lv_iadd hx hb dL_law_538 ?_
  refine r_sld hx hb hX hbl hbA hw hq1 dL_law_539 ?_
  refine r_cvI (As := [.int q1]) ⟨hx, hb, hml, hown, hts⟩ (c_X6_between l G hX0 (hp q1)) (cw_L_72 hts ⟨Nat.le_of_ble_eq_true rfl, Nat.le_of_ble_eq_true rfl⟩) hw (hw.recv hX0.1 rfl rfl) rfl rfl hl.1 (Nat.le_of_ble_eq_true rfl) hC0 dL_law_540 (fun r_1 I_2 L_3 H locs hp hw => ?_)
  refine lv_aload_n hx hb dL_law_543 rfl (lv_at hl 2 rfl) ?_
  refine lv_aload_n hx hb dL_law_544 rfl (lv_at hl 0 rfl) ?_
  refine lv_iload hx hb dL_law_545 (lv_at hl 4 rfl) ?_
  refine lv_iconst (v := 1) hx hb dL_law_547 (by decide) ?_
  refine lv_iadd hx hb dL_law_548 ?_
  refine r_sld hx hb hX hbl hbA hw hq1 dL_law_549 ?_
  refine r_cvI (As := [.int q1]) ⟨hx, hb, hml, hown, hts⟩ (c_X7_between l G hM0 hp) (cw_L_75 hts ⟨Nat.le_of_ble_eq_true rfl, Nat.le_of_ble_eq_true rfl⟩) hw (hw.recv hM0.1 rfl rfl) rfl rfl hl.1 (Nat.le_of_ble_eq_true rfl) hC0 dL_law_550 (fun r_4 I_5 L_6 H locs hp hw => ?_)
  obtain ⟨heq, hp⟩ := hp
  refine lv_icmp_eq (tgt := 975) hx hb dL_law_553 (by decide) (fun hc_7 => ?_) (fun hc_7 => absurd (heq) hc_7)
  exact W.widen (by omega) (by omega) (hB _ _ _ _ _ _ _ hp hw (lv_sub hl [0, 1, 2, 3, 4] rfl))
set_option maxHeartbeats 4000000 in
set_option maxRecDepth 100000 in
theorem lawc_run {p : Program} {l : Launch} {e : Env} {s : State} {m : MethodId} {below : List Frame} {meth : Method} {c : Code} {b Ln : Nat} {xs : Nat → Int32} {G : GX} {x4 q1 q2 q3 q4 q5 : Int32} {Q : State → Prop} {Rel : SH → (Nat → Option Nat) → MI → ML → Prop} {x mm o : Nat} {Sh : SH} {F : Nat → Option Nat} {I : MI} {L : ML} {H : Heap} {locs : List Loc} {ls : Array Slot} {C S : Nat} (LC : LCx p l s m c b Ln xs G x4 q1 q2 q3 q4 q5) (hC : C + 134 ≤ 600384 ∧ S + 2160 ≤ 7291370)
    (hB : ∀ (Sh : SH) (F : Nat → Option Nat) (I : MI) (L : ML) (H : Heap) (locs : List Loc) (ls : Array Slot), Rel Sh F I L → mW G Sh s I L H locs → lv_has ls 8 [(0, .ref b), (1, .ref x), (2, .ref mm), (3, .ref o), (4, .int x4)] → W p l e room_1 s m #[Value.ref b] below meth c H locs (C + 134) (S + 2160) Q (F0 m 975 ls []))
    (hX0 : isX G Sh x F) (hM0 : isModel G Sh mm) (hO0 : Sh o = some (sJ G 1)) (hp : lawS_run G x mm o Rel Sh F I L) (hw : mW G Sh s I L H locs) (hl : lv_has ls 8 [(0, .ref b), (1, .ref x), (2, .ref mm), (3, .ref o), (4, .int x4)]) : W p l e room_1 s m #[Value.ref b] below meth c H locs C S Q (F0 m 558 ls []) := by
  obtain ⟨hx, hb, hml, hown, hts, hX, hbl, hbA, hE, hST, hq1, hq2, hq3, hq4, hq5⟩ := LC
  obtain ⟨hC9, hS9⟩ := hC
  have hC0 : C ≤ room_1.cells ∧ S ≤ room_1.slots := ⟨by show C ≤ 600384; omega, by show S ≤ 7291370; omega⟩
  have hC1 : C + 1 ≤ room_1.cells ∧ S + 6 ≤ room_1.slots := ⟨by show C + 1 ≤ 600384; omega, by show S + 6 ≤ 7291370; omega⟩
  have hCT : C + 134 ≤ room_1.cells ∧ S + 2160 ≤ room_1.slots := ⟨hC9, hS9⟩
  unfold lawS_run at hp
  refine lv_aload_n hx hb dL_law_558 rfl (lv_at hl 1 rfl) ?_
  refine lv_aload_n hx hb dL_law_559 rfl (lv_at hl 0 rfl) ?_
  refine lv_iload hx hb dL_law_560 (lv_at hl 4 rfl) ?_
  refine lv_iconst (v := 1) hx hb dL_law_562 (by decide) ?_
  refine lv_iadd hx hb dL_law_563 ?_
  refine r_sld hx hb hX hbl hbA hw hq1 dL_law_564 ?_
  refine lv_aload_n hx hb dL_law_565 rfl (lv_at hl 0 rfl) ?_
  refine lv_iload hx hb dL_law_566 (lv_at hl 4 rfl) ?_
  refine lv_iconst (v := 2) hx hb dL_law_568 (by decide) ?_
  refine lv_iadd hx hb dL_law_569 ?_
  refine r_sld hx hb hX hbl hbA hw hq2 dL_law_570 ?_
  refine lv_aload_n hx hb dL_law_571 rfl (lv_at hl 0 rfl) ?_
  refine lv_iload hx hb dL_law_572 (lv_at hl 4 rfl) ?_
  refine lv_iconst (v := 3) hx hb dL_law_574 (by decide) ?_
  refine lv_iadd hx hb dL_law_575 ?_
  refine r_sld hx hb hX hbl hbA hw hq3 dL_law_576 ?_
  refine r_cvL (As := [.int q1, .int q2, .int q3]) ⟨hx, hb, hml, hown, hts⟩ (c_X6_run l G hX0 (hp q1 q2 q3)) (cw_L_76 hts ⟨Nat.le_of_ble_eq_true rfl, Nat.le_of_ble_eq_true rfl⟩) hw (hw.recv hX0.1 rfl rfl) rfl rfl hl.1 (Nat.le_of_ble_eq_true rfl) hC0 dL_law_577 (fun r_1 I_2 L_3 H locs hp hw => ?_)
  refine lv_aload_n hx hb dL_law_580 rfl (lv_at hl 2 rfl) ?_
  refine lv_aload_n hx hb dL_law_581 rfl (lv_at hl 0 rfl) ?_
  refine lv_iload hx hb dL_law_582 (lv_at hl 4 rfl) ?_
  refine lv_iconst (v := 1) hx hb dL_law_584 (by decide) ?_
  refine lv_iadd hx hb dL_law_585 ?_
  refine r_sld hx hb hX hbl hbA hw hq1 dL_law_586 ?_
  refine lv_aload_n hx hb dL_law_587 rfl (lv_at hl 0 rfl) ?_
  refine lv_iload hx hb dL_law_588 (lv_at hl 4 rfl) ?_
  refine lv_iconst (v := 2) hx hb dL_law_590 (by decide) ?_
  refine lv_iadd hx hb dL_law_591 ?_
  refine r_sld hx hb hX hbl hbA hw hq2 dL_law_592 ?_
  refine lv_aload_n hx hb dL_law_593 rfl (lv_at hl 0 rfl) ?_
  refine lv_iload hx hb dL_law_594 (lv_at hl 4 rfl) ?_
  refine lv_iconst (v := 3) hx hb dL_law_596 (by decide) ?_
  refine lv_iadd hx hb dL_law_597 ?_
  refine r_sld hx hb hX hbl hbA hw hq3 dL_law_598 ?_
  refine r_cvL (As := [.int q1, .int q2, .int q3]) ⟨hx, hb, hml, hown, hts⟩ (c_X7_run l G hM0 hp) (cw_L_80 hts ⟨Nat.le_of_ble_eq_true rfl, Nat.le_of_ble_eq_true rfl⟩) hw (hw.recv hM0.1 rfl rfl) rfl rfl hl.1 (Nat.le_of_ble_eq_true rfl) hC0 dL_law_599 (fun r_4 I_5 L_6 H locs hp hw => ?_)
  obtain ⟨heq, hp⟩ := hp
  refine W.lcmp hx hb dL_law_602 ?_
  refine lv_if_eq (tgt := 975) hx hb dL_law_603 (by decide) (fun hc_7 => ?_) (fun hc_7 => absurd ((lg_cmp_eq _ _).mpr heq) hc_7)
  exact W.widen (by omega) (by omega) (hB _ _ _ _ _ _ _ hp hw (lv_sub hl [0, 1, 2, 3, 4] rfl))
set_option maxHeartbeats 4000000 in
set_option maxRecDepth 100000 in
theorem lawc_width {p : Program} {l : Launch} {e : Env} {s : State} {m : MethodId} {below : List Frame} {meth : Method} {c : Code} {b Ln : Nat} {xs : Nat → Int32} {G : GX} {x4 q1 q2 q3 q4 q5 : Int32} {Q : State → Prop} {Rel : SH → (Nat → Option Nat) → MI → ML → Prop} {x mm o : Nat} {Sh : SH} {F : Nat → Option Nat} {I : MI} {L : ML} {H : Heap} {locs : List Loc} {ls : Array Slot} {C S : Nat} (LC : LCx p l s m c b Ln xs G x4 q1 q2 q3 q4 q5) (hC : C + 134 ≤ 600384 ∧ S + 2160 ≤ 7291370)
    (hB : ∀ (Sh : SH) (F : Nat → Option Nat) (I : MI) (L : ML) (H : Heap) (locs : List Loc) (ls : Array Slot), Rel Sh F I L → mW G Sh s I L H locs → lv_has ls 8 [(0, .ref b), (1, .ref x), (2, .ref mm), (3, .ref o), (4, .int x4)] → W p l e room_1 s m #[Value.ref b] below meth c H locs (C + 134) (S + 2160) Q (F0 m 975 ls []))
    (hX0 : isX G Sh x F) (hM0 : isModel G Sh mm) (hO0 : Sh o = some (sJ G 1)) (hp : lawS_width G x mm o Rel Sh F I L) (hw : mW G Sh s I L H locs) (hl : lv_has ls 8 [(0, .ref b), (1, .ref x), (2, .ref mm), (3, .ref o), (4, .int x4)]) : W p l e room_1 s m #[Value.ref b] below meth c H locs C S Q (F0 m 608 ls []) := by
  obtain ⟨hx, hb, hml, hown, hts, hX, hbl, hbA, hE, hST, hq1, hq2, hq3, hq4, hq5⟩ := LC
  obtain ⟨hC9, hS9⟩ := hC
  have hC0 : C ≤ room_1.cells ∧ S ≤ room_1.slots := ⟨by show C ≤ 600384; omega, by show S ≤ 7291370; omega⟩
  have hC1 : C + 1 ≤ room_1.cells ∧ S + 6 ≤ room_1.slots := ⟨by show C + 1 ≤ 600384; omega, by show S + 6 ≤ 7291370; omega⟩
  have hCT : C + 134 ≤ room_1.cells ∧ S + 2160 ≤ room_1.slots := ⟨hC9, hS9⟩
  unfold lawS_width at hp
  refine lv_aload_n hx hb dL_law_608 rfl (lv_at hl 1 rfl) ?_
  refine lv_aload_n hx hb dL_law_609 rfl (lv_at hl 0 rfl) ?_
  refine lv_iload hx hb dL_law_610 (lv_at hl 4 rfl) ?_
  refine lv_iconst (v := 1) hx hb dL_law_612 (by decide) ?_
  refine lv_iadd hx hb dL_law_613 ?_
  refine r_sld hx hb hX hbl hbA hw hq1 dL_law_614 ?_
  refine lv_aload_n hx hb dL_law_615 rfl (lv_at hl 0 rfl) ?_
  refine lv_iload hx hb dL_law_616 (lv_at hl 4 rfl) ?_
  refine lv_iconst (v := 2) hx hb dL_law_618 (by decide) ?_
  refine lv_iadd hx hb dL_law_619 ?_
  refine r_sld hx hb hX hbl hbA hw hq2 dL_law_620 ?_
  refine r_cvI (As := [.int q1, .int q2]) ⟨hx, hb, hml, hown, hts⟩ (c_X6_width l G hX0 (hp q1 q2)) (cw_L_81 hts ⟨Nat.le_of_ble_eq_true rfl, Nat.le_of_ble_eq_true rfl⟩) hw (hw.recv hX0.1 rfl rfl) rfl rfl hl.1 (Nat.le_of_ble_eq_true rfl) hC0 dL_law_621 (fun r_1 I_2 L_3 H locs hp hw => ?_)
  refine lv_aload_n hx hb dL_law_624 rfl (lv_at hl 2 rfl) ?_
  refine lv_aload_n hx hb dL_law_625 rfl (lv_at hl 0 rfl) ?_
  refine lv_iload hx hb dL_law_626 (lv_at hl 4 rfl) ?_
  refine lv_iconst (v := 1) hx hb dL_law_628 (by decide) ?_
  refine lv_iadd hx hb dL_law_629 ?_
  refine r_sld hx hb hX hbl hbA hw hq1 dL_law_630 ?_
  refine lv_aload_n hx hb dL_law_631 rfl (lv_at hl 0 rfl) ?_
  refine lv_iload hx hb dL_law_632 (lv_at hl 4 rfl) ?_
  refine lv_iconst (v := 2) hx hb dL_law_634 (by decide) ?_
  refine lv_iadd hx hb dL_law_635 ?_
  refine r_sld hx hb hX hbl hbA hw hq2 dL_law_636 ?_
  refine r_cvI (As := [.int q1, .int q2]) ⟨hx, hb, hml, hown, hts⟩ (c_X7_width l G hM0 hp) (cw_L_84 hts ⟨Nat.le_of_ble_eq_true rfl, Nat.le_of_ble_eq_true rfl⟩) hw (hw.recv hM0.1 rfl rfl) rfl rfl hl.1 (Nat.le_of_ble_eq_true rfl) hC0 dL_law_637 (fun r_4 I_5 L_6 H locs hp hw => ?_)
  obtain ⟨heq, hp⟩ := hp
  refine lv_icmp_eq (tgt := 975) hx hb dL_law_640 (by decide) (fun hc_7 => ?_) (fun hc_7 => absurd (heq) hc_7)
  exact W.widen (by omega) (by omega) (hB _ _ _ _ _ _ _ hp hw (lv_sub hl [0, 1, 2, 3, 4] rfl))
set_option maxHeartbeats 4000000 in
set_option maxRecDepth 100000 in
theorem lawc_isVoid {p : Program} {l : Launch} {e : Env} {s : State} {m : MethodId} {below : List Frame} {meth : Method} {c : Code} {b Ln : Nat} {xs : Nat → Int32} {G : GX} {x4 q1 q2 q3 q4 q5 : Int32} {Q : State → Prop} {Rel : SH → (Nat → Option Nat) → MI → ML → Prop} {x mm o : Nat} {Sh : SH} {F : Nat → Option Nat} {I : MI} {L : ML} {H : Heap} {locs : List Loc} {ls : Array Slot} {C S : Nat} (LC : LCx p l s m c b Ln xs G x4 q1 q2 q3 q4 q5) (hC : C + 134 ≤ 600384 ∧ S + 2160 ≤ 7291370)
    (hB : ∀ (Sh : SH) (F : Nat → Option Nat) (I : MI) (L : ML) (H : Heap) (locs : List Loc) (ls : Array Slot), Rel Sh F I L → mW G Sh s I L H locs → lv_has ls 8 [(0, .ref b), (1, .ref x), (2, .ref mm), (3, .ref o), (4, .int x4)] → W p l e room_1 s m #[Value.ref b] below meth c H locs (C + 134) (S + 2160) Q (F0 m 975 ls []))
    (hX0 : isX G Sh x F) (hM0 : isModel G Sh mm) (hO0 : Sh o = some (sJ G 1)) (hp : lawS_isVoid G x mm o Rel Sh F I L) (hw : mW G Sh s I L H locs) (hl : lv_has ls 8 [(0, .ref b), (1, .ref x), (2, .ref mm), (3, .ref o), (4, .int x4)]) : W p l e room_1 s m #[Value.ref b] below meth c H locs C S Q (F0 m 645 ls []) := by
  obtain ⟨hx, hb, hml, hown, hts, hX, hbl, hbA, hE, hST, hq1, hq2, hq3, hq4, hq5⟩ := LC
  obtain ⟨hC9, hS9⟩ := hC
  have hC0 : C ≤ room_1.cells ∧ S ≤ room_1.slots := ⟨by show C ≤ 600384; omega, by show S ≤ 7291370; omega⟩
  have hC1 : C + 1 ≤ room_1.cells ∧ S + 6 ≤ room_1.slots := ⟨by show C + 1 ≤ 600384; omega, by show S + 6 ≤ 7291370; omega⟩
  have hCT : C + 134 ≤ room_1.cells ∧ S + 2160 ≤ room_1.slots := ⟨hC9, hS9⟩
  unfold lawS_isVoid at hp
  refine lv_aload_n hx hb dL_law_645 rfl (lv_at hl 1 rfl) ?_
  refine lv_aload_n hx hb dL_law_646 rfl (lv_at hl 0 rfl) ?_
  refine lv_iload hx hb dL_law_647 (lv_at hl 4 rfl) ?_
  refine lv_iconst (v := 1) hx hb dL_law_649 (by decide) ?_
  refine lv_iadd hx hb dL_law_650 ?_
  refine r_sld hx hb hX hbl hbA hw hq1 dL_law_651 ?_
  refine lv_aload_n hx hb dL_law_652 rfl (lv_at hl 0 rfl) ?_
  refine lv_iload hx hb dL_law_653 (lv_at hl 4 rfl) ?_
  refine lv_iconst (v := 2) hx hb dL_law_655 (by decide) ?_
  refine lv_iadd hx hb dL_law_656 ?_
  refine r_sld hx hb hX hbl hbA hw hq2 dL_law_657 ?_
  refine r_cvI (As := [.int q1, .int q2]) ⟨hx, hb, hml, hown, hts⟩ (c_X6_isVoid l G hX0 (hp q1 q2)) (cw_L_85 hts ⟨Nat.le_of_ble_eq_true rfl, Nat.le_of_ble_eq_true rfl⟩) hw (hw.recv hX0.1 rfl rfl) rfl rfl hl.1 (Nat.le_of_ble_eq_true rfl) hC0 dL_law_658 (fun r_1 I_2 L_3 H locs hp hw => ?_)
  refine lv_aload_n hx hb dL_law_661 rfl (lv_at hl 2 rfl) ?_
  refine lv_aload_n hx hb dL_law_662 rfl (lv_at hl 0 rfl) ?_
  refine lv_iload hx hb dL_law_663 (lv_at hl 4 rfl) ?_
  refine lv_iconst (v := 1) hx hb dL_law_665 (by decide) ?_
  refine lv_iadd hx hb dL_law_666 ?_
  refine r_sld hx hb hX hbl hbA hw hq1 dL_law_667 ?_
  refine lv_aload_n hx hb dL_law_668 rfl (lv_at hl 0 rfl) ?_
  refine lv_iload hx hb dL_law_669 (lv_at hl 4 rfl) ?_
  refine lv_iconst (v := 2) hx hb dL_law_671 (by decide) ?_
  refine lv_iadd hx hb dL_law_672 ?_
  refine r_sld hx hb hX hbl hbA hw hq2 dL_law_673 ?_
  refine r_cvI (As := [.int q1, .int q2]) ⟨hx, hb, hml, hown, hts⟩ (c_X7_isVoid l G hM0 hp) (cw_L_89 hts ⟨Nat.le_of_ble_eq_true rfl, Nat.le_of_ble_eq_true rfl⟩) hw (hw.recv hM0.1 rfl rfl) rfl rfl hl.1 (Nat.le_of_ble_eq_true rfl) hC0 dL_law_674 (fun r_4 I_5 L_6 H locs hp hw => ?_)
  obtain ⟨heq, hp⟩ := hp
  refine lv_icmp_eq (tgt := 975) hx hb dL_law_677 (by decide) (fun hc_7 => ?_) (fun hc_7 => absurd (heq) hc_7)
  exact W.widen (by omega) (by omega) (hB _ _ _ _ _ _ _ hp hw (lv_sub hl [0, 1, 2, 3, 4] rfl))
set_option maxHeartbeats 4000000 in
set_option maxRecDepth 100000 in
theorem lawc_place {p : Program} {l : Launch} {e : Env} {s : State} {m : MethodId} {below : List Frame} {meth : Method} {c : Code} {b Ln : Nat} {xs : Nat → Int32} {G : GX} {x4 q1 q2 q3 q4 q5 : Int32} {Q : State → Prop} {Rel : SH → (Nat → Option Nat) → MI → ML → Prop} {x mm o : Nat} {Sh : SH} {F : Nat → Option Nat} {I : MI} {L : ML} {H : Heap} {locs : List Loc} {ls : Array Slot} {C S : Nat} (LC : LCx p l s m c b Ln xs G x4 q1 q2 q3 q4 q5) (hC : C + 134 ≤ 600384 ∧ S + 2160 ≤ 7291370)
    (hB : ∀ (Sh : SH) (F : Nat → Option Nat) (I : MI) (L : ML) (H : Heap) (locs : List Loc) (ls : Array Slot), Rel Sh F I L → mW G Sh s I L H locs → lv_has ls 8 [(0, .ref b), (1, .ref x), (2, .ref mm), (3, .ref o), (4, .int x4)] → W p l e room_1 s m #[Value.ref b] below meth c H locs (C + 134) (S + 2160) Q (F0 m 975 ls []))
    (hX0 : isX G Sh x F) (hM0 : isModel G Sh mm) (hO0 : Sh o = some (sJ G 1)) (hp : lawS_place G x mm o Rel Sh F I L) (hw : mW G Sh s I L H locs) (hl : lv_has ls 8 [(0, .ref b), (1, .ref x), (2, .ref mm), (3, .ref o), (4, .int x4)]) : W p l e room_1 s m #[Value.ref b] below meth c H locs C S Q (F0 m 682 ls []) := by
  obtain ⟨hx, hb, hml, hown, hts, hX, hbl, hbA, hE, hST, hq1, hq2, hq3, hq4, hq5⟩ := LC
  obtain ⟨hC9, hS9⟩ := hC
  have hC0 : C ≤ room_1.cells ∧ S ≤ room_1.slots := ⟨by show C ≤ 600384; omega, by show S ≤ 7291370; omega⟩
  have hC1 : C + 1 ≤ room_1.cells ∧ S + 6 ≤ room_1.slots := ⟨by show C + 1 ≤ 600384; omega, by show S + 6 ≤ 7291370; omega⟩
  have hCT : C + 134 ≤ room_1.cells ∧ S + 2160 ≤ room_1.slots := ⟨hC9, hS9⟩
  unfold lawS_place at hp
  refine lv_aload_n hx hb dL_law_682 rfl (lv_at hl 1 rfl) ?_
  refine lv_aload_n hx hb dL_law_683 rfl (lv_at hl 0 rfl) ?_
  refine lv_iload hx hb dL_law_684 (lv_at hl 4 rfl) ?_
  refine lv_iconst (v := 1) hx hb dL_law_686 (by decide) ?_
  refine lv_iadd hx hb dL_law_687 ?_
  refine r_sld hx hb hX hbl hbA hw hq1 dL_law_688 ?_
  refine lv_aload_n hx hb dL_law_689 rfl (lv_at hl 0 rfl) ?_
  refine lv_iload hx hb dL_law_690 (lv_at hl 4 rfl) ?_
  refine lv_iconst (v := 2) hx hb dL_law_692 (by decide) ?_
  refine lv_iadd hx hb dL_law_693 ?_
  refine r_sld hx hb hX hbl hbA hw hq2 dL_law_694 ?_
  refine lv_aload_n hx hb dL_law_695 rfl (lv_at hl 3 rfl) ?_
  refine r_csH (As := [.ref x, .int q1, .int q2, .ref o]) ⟨hx, hb, hml, hown, hts⟩ (c_L_place l hST G hX0 hO0 (K := lawK_place G Sh F x mm o Rel q1 q2) (hp q1 q2)) (cw_L_90 hts ⟨Nat.le_of_ble_eq_true rfl, Nat.le_of_ble_eq_true rfl⟩) hw hE rfl rfl hl.1 (Nat.le_of_ble_eq_true rfl) hC1 dL_law_696 (fun r_1 I_2 L_3 H locs hp hw => ?_)
  unfold lawK_place at hp
  refine lv_istore (lv' := [(5, .int r_1), (0, .ref b), (1, .ref x), (2, .ref mm), (3, .ref o), (4, .int x4)]) hx hb dL_law_699 hl (by decide) rfl (fun ls hl => ?_)
  refine lv_aload_n hx hb dL_law_701 rfl (lv_at hl 3 rfl) ?_
  refine lv_aload_n hx hb dL_law_702 rfl (lv_at hl 1 rfl) ?_
  refine lv_iload hx hb dL_law_703 (lv_at hl 5 rfl) ?_
  refine lv_iconst (v := 1) hx hb dL_law_705 (by decide) ?_
  refine lv_iadd hx hb dL_law_706 ?_
  refine r_sld hx hb hX hbl hbA hw hq1 dL_law_707 ?_
  refine lv_aload_n hx hb dL_law_708 rfl (lv_at hl 1 rfl) ?_
  refine lv_iload hx hb dL_law_709 (lv_at hl 5 rfl) ?_
  refine lv_iconst (v := 2) hx hb dL_law_711 (by decide) ?_
  refine lv_iadd hx hb dL_law_712 ?_
  refine r_sld hx hb hX hbl hbA hw hq2 dL_law_713 ?_
  refine r_cvL (As := [.int q1, .int q2]) ⟨hx, hb, hml, hown, hts⟩ (c_X7_place l G hM0 hp) (cw_L_95 hts ⟨Nat.le_of_ble_eq_true rfl, Nat.le_of_ble_eq_true rfl⟩) hw (hw.recv hM0.1 rfl rfl) rfl rfl hl.1 (Nat.le_of_ble_eq_true rfl) hC1 dL_law_714 (fun r_4 I_5 L_6 H locs hp hw => ?_)
  refine lv_lstore (lv' := [(6, .long r_4), (5, .int r_1), (0, .ref b), (1, .ref x), (2, .ref mm), (3, .ref o), (4, .int x4)]) hx hb dL_law_717 hl (by decide) rfl (fun ls hl => ?_)
  refine lv_aload_n hx hb dL_law_719 rfl (lv_at hl 4 rfl) ?_
  refine r_cvI (As := []) ⟨hx, hb, hml, hown, hts⟩ (c_X7_thrown l G hM0 hp) (cw_L_96 hts ⟨Nat.le_of_ble_eq_true rfl, Nat.le_of_ble_eq_true rfl⟩) hw (hw.recv hM0.1 rfl rfl) rfl rfl hl.1 (Nat.le_of_ble_eq_true rfl) hC1 dL_law_720 (fun r_7 I_8 L_9 H locs hp hw => ?_)
  obtain ⟨heq, heqL, hp⟩ := hp
  refine lv_iload hx hb dL_law_723 (lv_at hl 1 rfl) ?_
  refine lv_icmp_eq (tgt := 730) hx hb dL_law_725 (by decide) (fun hc_10 => ?_) (fun hc_10 => absurd (heq) hc_10)
  refine lv_iload hx hb dL_law_730 (lv_at hl 1 rfl) ?_
  refine lv_if_ne (tgt := 746) hx hb dL_law_732 (by decide) (fun hc_11 => ?_) (fun hc_11 => ?_)
  · skip
    refine lv_goto (tgt := 975) hx hb dL_law_746 (by decide) ?_
    exact W.widen (by omega) (by omega) (hB _ _ _ _ _ _ _ hp hw (lv_sub hl [2, 3, 4, 5, 6] rfl))
  · skip
    refine lv_aload_n hx hb dL_law_735 rfl (lv_at hl 5 rfl) ?_
    refine lv_iconst (v := 0) hx hb dL_law_736 (by decide) ?_
    refine r_lald hx hb hw (hO0) (show ¬ ((0 : Int32) < 0 ∨ 1 ≤ (0 : Int32).toNatClampNeg) by decide) dL_law_737 ?_
    refine lv_lload hx hb dL_law_738 (lv_at hl 0 rfl) ?_
    refine W.lcmp hx hb dL_law_740 ?_
    refine lv_if_eq (tgt := 746) hx hb dL_law_741 (by decide) (fun hc_12 => ?_) (fun hc_12 => absurd ((lg_cmp_eq _ _).mpr (heqL hc_11)) hc_12)
    refine lv_goto (tgt := 975) hx hb dL_law_746 (by decide) ?_
    exact W.widen (by omega) (by omega) (hB _ _ _ _ _ _ _ hp hw (lv_sub hl [2, 3, 4, 5, 6] rfl))
set_option maxHeartbeats 4000000 in
set_option maxRecDepth 100000 in
theorem lawc_at {p : Program} {l : Launch} {e : Env} {s : State} {m : MethodId} {below : List Frame} {meth : Method} {c : Code} {b Ln : Nat} {xs : Nat → Int32} {G : GX} {x4 q1 q2 q3 q4 q5 : Int32} {Q : State → Prop} {Rel : SH → (Nat → Option Nat) → MI → ML → Prop} {x mm o : Nat} {Sh : SH} {F : Nat → Option Nat} {I : MI} {L : ML} {H : Heap} {locs : List Loc} {ls : Array Slot} {C S : Nat} (LC : LCx p l s m c b Ln xs G x4 q1 q2 q3 q4 q5) (hC : C + 134 ≤ 600384 ∧ S + 2160 ≤ 7291370)
    (hB : ∀ (Sh : SH) (F : Nat → Option Nat) (I : MI) (L : ML) (H : Heap) (locs : List Loc) (ls : Array Slot), Rel Sh F I L → mW G Sh s I L H locs → lv_has ls 8 [(0, .ref b), (1, .ref x), (2, .ref mm), (3, .ref o), (4, .int x4)] → W p l e room_1 s m #[Value.ref b] below meth c H locs (C + 134) (S + 2160) Q (F0 m 975 ls []))
    (hX0 : isX G Sh x F) (hM0 : isModel G Sh mm) (hO0 : Sh o = some (sJ G 1)) (hp : lawS_at G x mm o Rel Sh F I L) (hw : mW G Sh s I L H locs) (hl : lv_has ls 8 [(0, .ref b), (1, .ref x), (2, .ref mm), (3, .ref o), (4, .int x4)]) : W p l e room_1 s m #[Value.ref b] below meth c H locs C S Q (F0 m 749 ls []) := by
  obtain ⟨hx, hb, hml, hown, hts, hX, hbl, hbA, hE, hST, hq1, hq2, hq3, hq4, hq5⟩ := LC
  obtain ⟨hC9, hS9⟩ := hC
  have hC0 : C ≤ room_1.cells ∧ S ≤ room_1.slots := ⟨by show C ≤ 600384; omega, by show S ≤ 7291370; omega⟩
  have hC1 : C + 1 ≤ room_1.cells ∧ S + 6 ≤ room_1.slots := ⟨by show C + 1 ≤ 600384; omega, by show S + 6 ≤ 7291370; omega⟩
  have hCT : C + 134 ≤ room_1.cells ∧ S + 2160 ≤ room_1.slots := ⟨hC9, hS9⟩
  unfold lawS_at at hp
  refine lv_aload_n hx hb dL_law_749 rfl (lv_at hl 1 rfl) ?_
  refine lv_aload_n hx hb dL_law_750 rfl (lv_at hl 0 rfl) ?_
  refine lv_iload hx hb dL_law_751 (lv_at hl 4 rfl) ?_
  refine lv_iconst (v := 1) hx hb dL_law_753 (by decide) ?_
  refine lv_iadd hx hb dL_law_754 ?_
  refine r_sld hx hb hX hbl hbA hw hq1 dL_law_755 ?_
  refine lv_aload_n hx hb dL_law_756 rfl (lv_at hl 0 rfl) ?_
  refine lv_iload hx hb dL_law_757 (lv_at hl 4 rfl) ?_
  refine lv_iconst (v := 2) hx hb dL_law_759 (by decide) ?_
  refine lv_iadd hx hb dL_law_760 ?_
  refine r_sld hx hb hX hbl hbA hw hq2 dL_law_761 ?_
  refine lv_aload_n hx hb dL_law_762 rfl (lv_at hl 0 rfl) ?_
  refine lv_iload hx hb dL_law_763 (lv_at hl 4 rfl) ?_
  refine lv_iconst (v := 3) hx hb dL_law_765 (by decide) ?_
  refine lv_iadd hx hb dL_law_766 ?_
  refine r_sld hx hb hX hbl hbA hw hq3 dL_law_767 ?_
  refine lv_aload_n hx hb dL_law_768 rfl (lv_at hl 0 rfl) ?_
  refine lv_iload hx hb dL_law_769 (lv_at hl 4 rfl) ?_
  refine lv_iconst (v := 4) hx hb dL_law_771 (by decide) ?_
  refine lv_iadd hx hb dL_law_772 ?_
  refine r_sld hx hb hX hbl hbA hw hq4 dL_law_773 ?_
  refine lv_aload_n hx hb dL_law_774 rfl (lv_at hl 3 rfl) ?_
  refine r_csH (As := [.ref x, .int q1, .int q2, .int q3, .int q4, .ref o]) ⟨hx, hb, hml, hown, hts⟩ (c_L_at l hST G hX0 hO0 (K := lawK_at G Sh F x mm o Rel q1 q2 q3 q4) (hp q1 q2 q3 q4)) (cw_L_99 hts ⟨Nat.le_of_ble_eq_true rfl, Nat.le_of_ble_eq_true rfl⟩) hw hE rfl rfl hl.1 (Nat.le_of_ble_eq_true rfl) hC1 dL_law_775 (fun r_1 I_2 L_3 H locs hp hw => ?_)
  unfold lawK_at at hp
  refine lv_istore (lv' := [(5, .int r_1), (0, .ref b), (1, .ref x), (2, .ref mm), (3, .ref o), (4, .int x4)]) hx hb dL_law_778 hl (by decide) rfl (fun ls hl => ?_)
  refine lv_aload_n hx hb dL_law_780 rfl (lv_at hl 3 rfl) ?_
  refine lv_aload_n hx hb dL_law_781 rfl (lv_at hl 1 rfl) ?_
  refine lv_iload hx hb dL_law_782 (lv_at hl 5 rfl) ?_
  refine lv_iconst (v := 1) hx hb dL_law_784 (by decide) ?_
  refine lv_iadd hx hb dL_law_785 ?_
  refine r_sld hx hb hX hbl hbA hw hq1 dL_law_786 ?_
  refine lv_aload_n hx hb dL_law_787 rfl (lv_at hl 1 rfl) ?_
  refine lv_iload hx hb dL_law_788 (lv_at hl 5 rfl) ?_
  refine lv_iconst (v := 2) hx hb dL_law_790 (by decide) ?_
  refine lv_iadd hx hb dL_law_791 ?_
  refine r_sld hx hb hX hbl hbA hw hq2 dL_law_792 ?_
  refine lv_aload_n hx hb dL_law_793 rfl (lv_at hl 1 rfl) ?_
  refine lv_iload hx hb dL_law_794 (lv_at hl 5 rfl) ?_
  refine lv_iconst (v := 3) hx hb dL_law_796 (by decide) ?_
  refine lv_iadd hx hb dL_law_797 ?_
  refine r_sld hx hb hX hbl hbA hw hq3 dL_law_798 ?_
  refine lv_aload_n hx hb dL_law_799 rfl (lv_at hl 1 rfl) ?_
  refine lv_iload hx hb dL_law_800 (lv_at hl 5 rfl) ?_
  refine lv_iconst (v := 4) hx hb dL_law_802 (by decide) ?_
  refine lv_iadd hx hb dL_law_803 ?_
  refine r_sld hx hb hX hbl hbA hw hq4 dL_law_804 ?_
  refine r_cvL (As := [.int q1, .int q2, .int q3, .int q4]) ⟨hx, hb, hml, hown, hts⟩ (c_X7_at l G hM0 hp) (cw_L_102 hts ⟨Nat.le_of_ble_eq_true rfl, Nat.le_of_ble_eq_true rfl⟩) hw (hw.recv hM0.1 rfl rfl) rfl rfl hl.1 (Nat.le_of_ble_eq_true rfl) hC1 dL_law_805 (fun r_4 I_5 L_6 H locs hp hw => ?_)
  refine lv_lstore (lv' := [(6, .long r_4), (5, .int r_1), (0, .ref b), (1, .ref x), (2, .ref mm), (3, .ref o), (4, .int x4)]) hx hb dL_law_808 hl (by decide) rfl (fun ls hl => ?_)
  refine lv_aload_n hx hb dL_law_810 rfl (lv_at hl 4 rfl) ?_
  refine r_cvI (As := []) ⟨hx, hb, hml, hown, hts⟩ (c_X7_thrown l G hM0 hp) (cw_L_96 hts ⟨Nat.le_of_ble_eq_true rfl, Nat.le_of_ble_eq_true rfl⟩) hw (hw.recv hM0.1 rfl rfl) rfl rfl hl.1 (Nat.le_of_ble_eq_true rfl) hC1 dL_law_811 (fun r_7 I_8 L_9 H locs hp hw => ?_)
  obtain ⟨heq, heqL, hp⟩ := hp
  refine lv_iload hx hb dL_law_814 (lv_at hl 1 rfl) ?_
  refine lv_icmp_eq (tgt := 821) hx hb dL_law_816 (by decide) (fun hc_10 => ?_) (fun hc_10 => absurd (heq) hc_10)
  refine lv_iload hx hb dL_law_821 (lv_at hl 1 rfl) ?_
  refine lv_if_ne (tgt := 837) hx hb dL_law_823 (by decide) (fun hc_11 => ?_) (fun hc_11 => ?_)
  · skip
    refine lv_goto (tgt := 975) hx hb dL_law_837 (by decide) ?_
    exact W.widen (by omega) (by omega) (hB _ _ _ _ _ _ _ hp hw (lv_sub hl [2, 3, 4, 5, 6] rfl))
  · skip
    refine lv_aload_n hx hb dL_law_826 rfl (lv_at hl 5 rfl) ?_
    refine lv_iconst (v := 0) hx hb dL_law_827 (by decide) ?_
    refine r_lald hx hb hw (hO0) (show ¬ ((0 : Int32) < 0 ∨ 1 ≤ (0 : Int32).toNatClampNeg) by decide) dL_law_828 ?_
    refine lv_lload hx hb dL_law_829 (lv_at hl 0 rfl) ?_
    refine W.lcmp hx hb dL_law_831 ?_
    refine lv_if_eq (tgt := 837) hx hb dL_law_832 (by decide) (fun hc_12 => ?_) (fun hc_12 => absurd ((lg_cmp_eq _ _).mpr (heqL hc_11)) hc_12)
    refine lv_goto (tgt := 975) hx hb dL_law_837 (by decide) ?_
    exact W.widen (by omega) (by omega) (hB _ _ _ _ _ _ _ hp hw (lv_sub hl [2, 3, 4, 5, 6] rfl))
set_option maxHeartbeats 4000000 in
set_option maxRecDepth 100000 in
theorem lawc_item {p : Program} {l : Launch} {e : Env} {s : State} {m : MethodId} {below : List Frame} {meth : Method} {c : Code} {b Ln : Nat} {xs : Nat → Int32} {G : GX} {x4 q1 q2 q3 q4 q5 : Int32} {Q : State → Prop} {Rel : SH → (Nat → Option Nat) → MI → ML → Prop} {x mm o : Nat} {Sh : SH} {F : Nat → Option Nat} {I : MI} {L : ML} {H : Heap} {locs : List Loc} {ls : Array Slot} {C S : Nat} (LC : LCx p l s m c b Ln xs G x4 q1 q2 q3 q4 q5) (hC : C + 134 ≤ 600384 ∧ S + 2160 ≤ 7291370)
    (hB : ∀ (Sh : SH) (F : Nat → Option Nat) (I : MI) (L : ML) (H : Heap) (locs : List Loc) (ls : Array Slot), Rel Sh F I L → mW G Sh s I L H locs → lv_has ls 8 [(0, .ref b), (1, .ref x), (2, .ref mm), (3, .ref o), (4, .int x4)] → W p l e room_1 s m #[Value.ref b] below meth c H locs (C + 134) (S + 2160) Q (F0 m 975 ls []))
    (hX0 : isX G Sh x F) (hM0 : isModel G Sh mm) (hO0 : Sh o = some (sJ G 1)) (hp : lawS_item G x mm o Rel Sh F I L) (hw : mW G Sh s I L H locs) (hl : lv_has ls 8 [(0, .ref b), (1, .ref x), (2, .ref mm), (3, .ref o), (4, .int x4)]) : W p l e room_1 s m #[Value.ref b] below meth c H locs C S Q (F0 m 840 ls []) := by
  obtain ⟨hx, hb, hml, hown, hts, hX, hbl, hbA, hE, hST, hq1, hq2, hq3, hq4, hq5⟩ := LC
  obtain ⟨hC9, hS9⟩ := hC
  have hC0 : C ≤ room_1.cells ∧ S ≤ room_1.slots := ⟨by show C ≤ 600384; omega, by show S ≤ 7291370; omega⟩
  have hC1 : C + 1 ≤ room_1.cells ∧ S + 6 ≤ room_1.slots := ⟨by show C + 1 ≤ 600384; omega, by show S + 6 ≤ 7291370; omega⟩
  have hCT : C + 134 ≤ room_1.cells ∧ S + 2160 ≤ room_1.slots := ⟨hC9, hS9⟩
  unfold lawS_item at hp
  refine lv_aload_n hx hb dL_law_840 rfl (lv_at hl 1 rfl) ?_
  refine lv_aload_n hx hb dL_law_841 rfl (lv_at hl 0 rfl) ?_
  refine lv_iload hx hb dL_law_842 (lv_at hl 4 rfl) ?_
  refine lv_iconst (v := 1) hx hb dL_law_844 (by decide) ?_
  refine lv_iadd hx hb dL_law_845 ?_
  refine r_sld hx hb hX hbl hbA hw hq1 dL_law_846 ?_
  refine lv_aload_n hx hb dL_law_847 rfl (lv_at hl 0 rfl) ?_
  refine lv_iload hx hb dL_law_848 (lv_at hl 4 rfl) ?_
  refine lv_iconst (v := 2) hx hb dL_law_850 (by decide) ?_
  refine lv_iadd hx hb dL_law_851 ?_
  refine r_sld hx hb hX hbl hbA hw hq2 dL_law_852 ?_
  refine lv_aload_n hx hb dL_law_853 rfl (lv_at hl 3 rfl) ?_
  refine r_csH (As := [.ref x, .int q1, .int q2, .ref o]) ⟨hx, hb, hml, hown, hts⟩ (c_L_item l hST G hX0 hO0 (K := lawK_item G Sh F x mm o Rel q1 q2) (hp q1 q2)) (cw_L_103 hts ⟨Nat.le_of_ble_eq_true rfl, Nat.le_of_ble_eq_true rfl⟩) hw hE rfl rfl hl.1 (Nat.le_of_ble_eq_true rfl) hC1 dL_law_854 (fun r_1 I_2 L_3 H locs hp hw => ?_)
  unfold lawK_item at hp
  refine lv_istore (lv' := [(5, .int r_1), (0, .ref b), (1, .ref x), (2, .ref mm), (3, .ref o), (4, .int x4)]) hx hb dL_law_857 hl (by decide) rfl (fun ls hl => ?_)
  refine lv_aload_n hx hb dL_law_859 rfl (lv_at hl 3 rfl) ?_
  refine lv_aload_n hx hb dL_law_860 rfl (lv_at hl 1 rfl) ?_
  refine lv_iload hx hb dL_law_861 (lv_at hl 5 rfl) ?_
  refine lv_iconst (v := 1) hx hb dL_law_863 (by decide) ?_
  refine lv_iadd hx hb dL_law_864 ?_
  refine r_sld hx hb hX hbl hbA hw hq1 dL_law_865 ?_
  refine lv_aload_n hx hb dL_law_866 rfl (lv_at hl 1 rfl) ?_
  refine lv_iload hx hb dL_law_867 (lv_at hl 5 rfl) ?_
  refine lv_iconst (v := 2) hx hb dL_law_869 (by decide) ?_
  refine lv_iadd hx hb dL_law_870 ?_
  refine r_sld hx hb hX hbl hbA hw hq2 dL_law_871 ?_
  refine r_cvI (As := [.int q1, .int q2]) ⟨hx, hb, hml, hown, hts⟩ (c_X7_item l G hM0 hp) (cw_L_105 hts ⟨Nat.le_of_ble_eq_true rfl, Nat.le_of_ble_eq_true rfl⟩) hw (hw.recv hM0.1 rfl rfl) rfl rfl hl.1 (Nat.le_of_ble_eq_true rfl) hC1 dL_law_872 (fun r_4 I_5 L_6 H locs hp hw => ?_)
  refine lv_istore (lv' := [(6, .int r_4), (5, .int r_1), (0, .ref b), (1, .ref x), (2, .ref mm), (3, .ref o), (4, .int x4)]) hx hb dL_law_875 hl (by decide) rfl (fun ls hl => ?_)
  refine lv_aload_n hx hb dL_law_877 rfl (lv_at hl 4 rfl) ?_
  refine r_cvI (As := []) ⟨hx, hb, hml, hown, hts⟩ (c_X7_thrown l G hM0 hp) (cw_L_96 hts ⟨Nat.le_of_ble_eq_true rfl, Nat.le_of_ble_eq_true rfl⟩) hw (hw.recv hM0.1 rfl rfl) rfl rfl hl.1 (Nat.le_of_ble_eq_true rfl) hC1 dL_law_878 (fun r_7 I_8 L_9 H locs hp hw => ?_)
  obtain ⟨heq, heqL, hp⟩ := hp
  refine lv_iload hx hb dL_law_881 (lv_at hl 1 rfl) ?_
  refine lv_icmp_eq (tgt := 888) hx hb dL_law_883 (by decide) (fun hc_10 => ?_) (fun hc_10 => absurd (heq) hc_10)
  refine lv_iload hx hb dL_law_888 (lv_at hl 1 rfl) ?_
  refine lv_if_ne (tgt := 905) hx hb dL_law_890 (by decide) (fun hc_11 => ?_) (fun hc_11 => ?_)
  · skip
    refine lv_goto (tgt := 975) hx hb dL_law_905 (by decide) ?_
    exact W.widen (by omega) (by omega) (hB _ _ _ _ _ _ _ hp hw (lv_sub hl [2, 3, 4, 5, 6] rfl))
  · skip
    refine lv_aload_n hx hb dL_law_893 rfl (lv_at hl 5 rfl) ?_
    refine lv_iconst (v := 0) hx hb dL_law_894 (by decide) ?_
    refine r_lald hx hb hw (hO0) (show ¬ ((0 : Int32) < 0 ∨ 1 ≤ (0 : Int32).toNatClampNeg) by decide) dL_law_895 ?_
    refine lv_iload hx hb dL_law_896 (lv_at hl 0 rfl) ?_
    refine lv_i2l hx hb dL_law_898 rfl ?_
    refine W.lcmp hx hb dL_law_899 ?_
    refine lv_if_eq (tgt := 905) hx hb dL_law_900 (by decide) (fun hc_12 => ?_) (fun hc_12 => absurd ((lg_cmp_eq _ _).mpr (heqL hc_11)) hc_12)
    refine lv_goto (tgt := 975) hx hb dL_law_905 (by decide) ?_
    exact W.widen (by omega) (by omega) (hB _ _ _ _ _ _ _ hp hw (lv_sub hl [2, 3, 4, 5, 6] rfl))
set_option maxHeartbeats 4000000 in
set_option maxRecDepth 100000 in
theorem lawc_count {p : Program} {l : Launch} {e : Env} {s : State} {m : MethodId} {below : List Frame} {meth : Method} {c : Code} {b Ln : Nat} {xs : Nat → Int32} {G : GX} {x4 q1 q2 q3 q4 q5 : Int32} {Q : State → Prop} {Rel : SH → (Nat → Option Nat) → MI → ML → Prop} {x mm o : Nat} {Sh : SH} {F : Nat → Option Nat} {I : MI} {L : ML} {H : Heap} {locs : List Loc} {ls : Array Slot} {C S : Nat} (LC : LCx p l s m c b Ln xs G x4 q1 q2 q3 q4 q5) (hC : C + 134 ≤ 600384 ∧ S + 2160 ≤ 7291370)
    (hB : ∀ (Sh : SH) (F : Nat → Option Nat) (I : MI) (L : ML) (H : Heap) (locs : List Loc) (ls : Array Slot), Rel Sh F I L → mW G Sh s I L H locs → lv_has ls 8 [(0, .ref b), (1, .ref x), (2, .ref mm), (3, .ref o), (4, .int x4)] → W p l e room_1 s m #[Value.ref b] below meth c H locs (C + 134) (S + 2160) Q (F0 m 975 ls []))
    (hX0 : isX G Sh x F) (hM0 : isModel G Sh mm) (hO0 : Sh o = some (sJ G 1)) (hp : lawS_count G x mm o Rel Sh F I L) (hw : mW G Sh s I L H locs) (hl : lv_has ls 8 [(0, .ref b), (1, .ref x), (2, .ref mm), (3, .ref o), (4, .int x4)]) : W p l e room_1 s m #[Value.ref b] below meth c H locs C S Q (F0 m 908 ls []) := by
  obtain ⟨hx, hb, hml, hown, hts, hX, hbl, hbA, hE, hST, hq1, hq2, hq3, hq4, hq5⟩ := LC
  obtain ⟨hC9, hS9⟩ := hC
  have hC0 : C ≤ room_1.cells ∧ S ≤ room_1.slots := ⟨by show C ≤ 600384; omega, by show S ≤ 7291370; omega⟩
  have hC1 : C + 1 ≤ room_1.cells ∧ S + 6 ≤ room_1.slots := ⟨by show C + 1 ≤ 600384; omega, by show S + 6 ≤ 7291370; omega⟩
  have hCT : C + 134 ≤ room_1.cells ∧ S + 2160 ≤ room_1.slots := ⟨hC9, hS9⟩
  unfold lawS_count at hp
  refine lv_aload_n hx hb dL_law_908 rfl (lv_at hl 1 rfl) ?_
  refine lv_aload_n hx hb dL_law_909 rfl (lv_at hl 0 rfl) ?_
  refine lv_iload hx hb dL_law_910 (lv_at hl 4 rfl) ?_
  refine lv_iconst (v := 1) hx hb dL_law_912 (by decide) ?_
  refine lv_iadd hx hb dL_law_913 ?_
  refine r_sld hx hb hX hbl hbA hw hq1 dL_law_914 ?_
  refine lv_aload_n hx hb dL_law_915 rfl (lv_at hl 0 rfl) ?_
  refine lv_iload hx hb dL_law_916 (lv_at hl 4 rfl) ?_
  refine lv_iconst (v := 2) hx hb dL_law_918 (by decide) ?_
  refine lv_iadd hx hb dL_law_919 ?_
  refine r_sld hx hb hX hbl hbA hw hq2 dL_law_920 ?_
  refine lv_aload_n hx hb dL_law_921 rfl (lv_at hl 3 rfl) ?_
  refine r_csH (As := [.ref x, .int q1, .int q2, .ref o]) ⟨hx, hb, hml, hown, hts⟩ (c_L_count l hST G hX0 hO0 (K := lawK_count G Sh F x mm o Rel q1 q2) (hp q1 q2)) (cw_L_106 hts ⟨Nat.le_of_ble_eq_true rfl, Nat.le_of_ble_eq_true rfl⟩) hw hE rfl rfl hl.1 (Nat.le_of_ble_eq_true rfl) hC1 dL_law_922 (fun r_1 I_2 L_3 H locs hp hw => ?_)
  unfold lawK_count at hp
  refine lv_istore (lv' := [(5, .int r_1), (0, .ref b), (1, .ref x), (2, .ref mm), (3, .ref o), (4, .int x4)]) hx hb dL_law_925 hl (by decide) rfl (fun ls hl => ?_)
  refine lv_aload_n hx hb dL_law_927 rfl (lv_at hl 3 rfl) ?_
  refine lv_aload_n hx hb dL_law_928 rfl (lv_at hl 1 rfl) ?_
  refine lv_iload hx hb dL_law_929 (lv_at hl 5 rfl) ?_
  refine lv_iconst (v := 1) hx hb dL_law_931 (by decide) ?_
  refine lv_iadd hx hb dL_law_932 ?_
  refine r_sld hx hb hX hbl hbA hw hq1 dL_law_933 ?_
  refine lv_aload_n hx hb dL_law_934 rfl (lv_at hl 1 rfl) ?_
  refine lv_iload hx hb dL_law_935 (lv_at hl 5 rfl) ?_
  refine lv_iconst (v := 2) hx hb dL_law_937 (by decide) ?_
  refine lv_iadd hx hb dL_law_938 ?_
  refine r_sld hx hb hX hbl hbA hw hq2 dL_law_939 ?_
  refine r_cvL (As := [.int q1, .int q2]) ⟨hx, hb, hml, hown, hts⟩ (c_X7_count l G hM0 hp) (cw_L_108 hts ⟨Nat.le_of_ble_eq_true rfl, Nat.le_of_ble_eq_true rfl⟩) hw (hw.recv hM0.1 rfl rfl) rfl rfl hl.1 (Nat.le_of_ble_eq_true rfl) hC1 dL_law_940 (fun r_4 I_5 L_6 H locs hp hw => ?_)
  refine lv_lstore (lv' := [(6, .long r_4), (5, .int r_1), (0, .ref b), (1, .ref x), (2, .ref mm), (3, .ref o), (4, .int x4)]) hx hb dL_law_943 hl (by decide) rfl (fun ls hl => ?_)
  refine lv_aload_n hx hb dL_law_945 rfl (lv_at hl 4 rfl) ?_
  refine r_cvI (As := []) ⟨hx, hb, hml, hown, hts⟩ (c_X7_thrown l G hM0 hp) (cw_L_96 hts ⟨Nat.le_of_ble_eq_true rfl, Nat.le_of_ble_eq_true rfl⟩) hw (hw.recv hM0.1 rfl rfl) rfl rfl hl.1 (Nat.le_of_ble_eq_true rfl) hC1 dL_law_946 (fun r_7 I_8 L_9 H locs hp hw => ?_)
  obtain ⟨heq, heqL, hp⟩ := hp
  refine lv_iload hx hb dL_law_949 (lv_at hl 1 rfl) ?_
  refine lv_icmp_eq (tgt := 956) hx hb dL_law_951 (by decide) (fun hc_10 => ?_) (fun hc_10 => absurd (heq) hc_10)
  refine lv_iload hx hb dL_law_956 (lv_at hl 1 rfl) ?_
  refine lv_if_ne (tgt := 972) hx hb dL_law_958 (by decide) (fun hc_11 => ?_) (fun hc_11 => ?_)
  · skip
    refine lv_goto (tgt := 975) hx hb dL_law_972 (by decide) ?_
    exact W.widen (by omega) (by omega) (hB _ _ _ _ _ _ _ hp hw (lv_sub hl [2, 3, 4, 5, 6] rfl))
  · skip
    refine lv_aload_n hx hb dL_law_961 rfl (lv_at hl 5 rfl) ?_
    refine lv_iconst (v := 0) hx hb dL_law_962 (by decide) ?_
    refine r_lald hx hb hw (hO0) (show ¬ ((0 : Int32) < 0 ∨ 1 ≤ (0 : Int32).toNatClampNeg) by decide) dL_law_963 ?_
    refine lv_lload hx hb dL_law_964 (lv_at hl 0 rfl) ?_
    refine W.lcmp hx hb dL_law_966 ?_
    refine lv_if_eq (tgt := 972) hx hb dL_law_967 (by decide) (fun hc_12 => ?_) (fun hc_12 => absurd ((lg_cmp_eq _ _).mpr (heqL hc_11)) hc_12)
    refine lv_goto (tgt := 975) hx hb dL_law_972 (by decide) ?_
    exact W.widen (by omega) (by omega) (hB _ _ _ _ _ _ _ hp hw (lv_sub hl [2, 3, 4, 5, 6] rfl))
set_option maxHeartbeats 4000000 in
set_option maxRecDepth 100000 in
/-- THE LAW'S LOOP -/
theorem law_loop {p : Program} {l : Launch} {e : Env} {s : State} {m : MethodId} {below : List Frame} {meth : Method} {c : Code} {b Ln : Nat} {xs : Nat → Int32} {G : GX} {Rel : Nat → SH → (Nat → Option Nat) → MI → ML → Prop} {x mm o C S : Nat} (hx : p.tables.exec = Jvm.exec) (hb : c.code = cL_law) (hr : meth.sig.returnType = ret) (hlocks : meth.locks = false) (hml : c.maxLocals = 8) (hown : s.vm.findClass RL = some m.cls) (hts : ∀ w ∈ wsA, w.before #[Value.ref b] s = true) (hX : va_X b Ln xs s s.heap) (hbl : b < s.heap.size) (hbA : ¬ mA G b) (hE : mE G s) (hST : l.stackTraces = false) (hG : G.2.2 = s.heap.size) (hL : Ln ≤ 384) (hLS : ∀ i, i ≤ 64 → LSt G x mm o (Rel i) (Rel (i + 1))) (hC : C + 134 * 65 ≤ 600384) (hS : S + 2160 * 65 ≤ 7291370) :
    ∀ (n i : Nat) (x4 : Int32), i + n = 65 → 6 * i ≤ Ln → x4 = nI (6 * i) → ∀ (Sh : SH) (F : Nat → Option Nat) (I : MI) (L : ML) (H : Heap) (locs : List Loc) (ls : Array Slot), Rel i Sh F I L → mW G Sh s I L H locs → lv_has ls 8 [(0, .ref b), (1, .ref x), (2, .ref mm), (3, .ref o), (4, .int x4)] → W p l e room_1 s m #[Value.ref b] below meth c H locs (C + 134 * i) (S + 2160 * i) (lw_Z below #[Value.ref b] s) (F0 m 23 ls []) := by
  intro n
  induction n with
  | zero =>
    intro i x4 h1 h2
    exact absurd h2 (by omega)
  | succ n ih =>
    intro i x4 h1 h2 ex4 Sh F I L H locs ls hR hw hl
    obtain ⟨hRn, ⟨hX0, hM0, hO0⟩, hc⟩ := hLS i (by omega) Sh F I L hR
    refine lv_iload hx hb dL_law_23 (lv_at hl 4 rfl) ?_
    refine lv_aload_n hx hb dL_law_25 rfl (lv_at hl 0 rfl) ?_
    refine va_slen hx hb hX hbl hbA hw.2.2.1 dL_law_26 ?_
    refine lv_bipush (v := 6) hx hb dL_law_27 (by decide) ?_
    refine lv_isub hx hb dL_law_29 ?_
    refine lv_icmp_gt (tgt := 981) hx hb dL_law_30 (by decide) (fun hc1 => ?_) (fun hc1 => ?_)
    · refine lv_iconst (v := 1) hx hb dL_law_981 (by decide) ?_
      refine va_forget (fun q hq => by rw [← hG]; exact hw.2.2.1.2.2 q hq) ?_
      refine W.widen (k := 600384) (n := 7291370) (by omega) (by omega) ?_
      exact lw_ret hx hb hr hlocks dL_law_982
    · have hlt : 6 * i + 6 ≤ Ln := by
        rcases Nat.lt_or_ge Ln (6 * i + 6) with q | q
        · refine absurd ?_ hc1
          rw [ex4]
          show nI Ln - 6 < nI (6 * i)
          rw [Int32.lt_iff_toInt_lt]
          have e1 : (nI Ln - 6 : Int32).toInt = (Ln : Int) - 6 := by
            rw [fb_subI] <;> (rw [nI_toInt (by omega)]; simp; try omega)
          rw [e1, nI_toInt (by omega)]
          omega
        · exact q
      have hq0 : vp_in x4 Ln := by rw [ex4]; exact vp_in_nI (by omega) (by omega)
      have hqk : ∀ k : Nat, k < 6 → vp_in (x4 + nI k) Ln := fun k hk => by rw [ex4, nI_add]; exact vp_in_nI (by omega) (by omega)
      refine lv_aload_n hx hb dL_law_33 rfl (lv_at hl 0 rfl) ?_
      refine lv_iload hx hb dL_law_34 (lv_at hl 4 rfl) ?_
      refine r_sld hx hb hX hbl hbA hw ⟨hq0, rfl⟩ dL_law_36 ?_
      refine lv_bipush (v := 31) hx hb dL_law_37 (by decide) ?_
      refine lv_iand hx hb dL_law_39 ?_
      refine lv_topi (fun t et => ?_)
      have LC : LCx p l s m c b Ln xs G x4 (xs (x4 + (1 : Int32)).toNatClampNeg) (xs (x4 + (2 : Int32)).toNatClampNeg) (xs (x4 + (3 : Int32)).toNatClampNeg) (xs (x4 + (4 : Int32)).toNatClampNeg) (xs (x4 + (5 : Int32)).toNatClampNeg) := ⟨hx, hb, hml, hown, hts, hX, hbl, hbA, hE, hST, ⟨hqk 1 (by omega), rfl⟩, ⟨hqk 2 (by omega), rfl⟩, ⟨hqk 3 (by omega), rfl⟩, ⟨hqk 4 (by omega), rfl⟩, ⟨hqk 5 (by omega), rfl⟩⟩
      have hi : i ≤ 63 := by omega
      have hCS : C + 134 * i + 134 ≤ 600384 ∧ S + 2160 * i + 2160 ≤ 7291370 := ⟨by omega, by omega⟩
      have hB : ∀ (Sh : SH) (F : Nat → Option Nat) (I : MI) (L : ML) (H : Heap) (locs : List Loc) (ls : Array Slot), Rel (i + 1) Sh F I L → mW G Sh s I L H locs → lv_has ls 8 [(0, .ref b), (1, .ref x), (2, .ref mm), (3, .ref o), (4, .int x4)] → W p l e room_1 s m #[Value.ref b] below meth c H locs (C + 134 * i + 134) (S + 2160 * i + 2160) (lw_Z below #[Value.ref b] s) (F0 m 975 ls []) := by
        intro Sh F I L H locs ls hR hw hl
        obtain ⟨x9, ex9⟩ : ∃ z : Int32, z = x4 + (6 : Int32) := ⟨_, rfl⟩
        refine lv_iinc (v := x9) (lv' := [(4, .int x9), (0, .ref b), (1, .ref x), (2, .ref mm), (3, .ref o)]) hx hb dL_law_975 hl (k := 4) rfl (by rw [ex9]; rfl) (by decide) rfl (fun ls hl => ?_)
        refine lv_goto (tgt := 23) hx hb dL_law_978 (by decide) ?_
        exact ih (i + 1) x9 (by omega) (by omega) (by rw [ex9, ex4]; exact nI_add _ 6) Sh F I L H locs ls hR hw (lv_sub hl [1, 2, 3, 4, 0] rfl)
      by_cases c0 : t = (0 : Int32)
      · refine lv_tableIn (off := 84) (tgt := 124) hx hb dL_law_40 (by rw [c0]; decide) (by rw [c0]; decide) (by rw [c0]; rfl) (by decide) ?_
        exact lawc_table LC hCS hB hX0 hM0 hO0 hc.1 hw hl
      by_cases c1 : t = (1 : Int32)
      · refine lv_tableIn (off := 97) (tgt := 137) hx hb dL_law_40 (by rw [c1]; decide) (by rw [c1]; decide) (by rw [c1]; rfl) (by decide) ?_
        exact lawc_type LC hCS hB hX0 hM0 hO0 hc.2.1 hw hl
      by_cases c2 : t = (2 : Int32)
      · refine lv_tableIn (off := 158) (tgt := 198) hx hb dL_law_40 (by rw [c2]; decide) (by rw [c2]; decide) (by rw [c2]; rfl) (by decide) ?_
        exact lawc_lay LC hCS hB hX0 hM0 hO0 hc.2.2.1 hw hl
      by_cases c3 : t = (3 : Int32)
      · refine lv_tableIn (off := 183) (tgt := 223) hx hb dL_law_40 (by rw [c3]; decide) (by rw [c3]; decide) (by rw [c3]; rfl) (by decide) ?_
        exact lawc_glue LC hCS hB hX0 hM0 hO0 hc.2.2.2.1 hw hl
      by_cases c4 : t = (4 : Int32)
      · refine lv_tableIn (off := 256) (tgt := 296) hx hb dL_law_40 (by rw [c4]; decide) (by rw [c4]; decide) (by rw [c4]; rfl) (by decide) ?_
        exact lawc_shrink LC hCS hB hX0 hM0 hO0 hc.2.2.2.2.1 hw hl
      by_cases c5 : t = (5 : Int32)
      · refine lv_tableIn (off := 317) (tgt := 357) hx hb dL_law_40 (by rw [c5]; decide) (by rw [c5]; decide) (by rw [c5]; rfl) (by decide) ?_
        exact lawc_row LC hCS hB hX0 hM0 hO0 hc.2.2.2.2.2.1 hw hl
      by_cases c6 : t = (6 : Int32)
      · refine lv_tableIn (off := 342) (tgt := 382) hx hb dL_law_40 (by rw [c6]; decide) (by rw [c6]; decide) (by rw [c6]; rfl) (by decide) ?_
        exact lawc_entry LC hCS hB hX0 hM0 hO0 hc.2.2.2.2.2.2.1 hw hl
      by_cases c7 : t = (7 : Int32)
      · refine lv_tableIn (off := 419) (tgt := 459) hx hb dL_law_40 (by rw [c7]; decide) (by rw [c7]; decide) (by rw [c7]; rfl) (by decide) ?_
        exact lawc_nest LC hCS hB hX0 hM0 hO0 hc.2.2.2.2.2.2.2.1 hw hl
      by_cases c8 : t = (8 : Int32)
      · refine lv_tableIn (off := 468) (tgt := 508) hx hb dL_law_40 (by rw [c8]; decide) (by rw [c8]; decide) (by rw [c8]; rfl) (by decide) ?_
        exact lawc_end LC hCS hB hX0 hM0 hO0 hc.2.2.2.2.2.2.2.2.1 hw hl
      by_cases c9 : t = (9 : Int32)
      · refine lv_tableIn (off := 493) (tgt := 533) hx hb dL_law_40 (by rw [c9]; decide) (by rw [c9]; decide) (by rw [c9]; rfl) (by decide) ?_
        exact lawc_between LC hCS hB hX0 hM0 hO0 hc.2.2.2.2.2.2.2.2.2.1 hw hl
      by_cases c10 : t = (10 : Int32)
      · refine lv_tableIn (off := 518) (tgt := 558) hx hb dL_law_40 (by rw [c10]; decide) (by rw [c10]; decide) (by rw [c10]; rfl) (by decide) ?_
        exact lawc_run LC hCS hB hX0 hM0 hO0 hc.2.2.2.2.2.2.2.2.2.2.1 hw hl
      by_cases c11 : t = (11 : Int32)
      · refine lv_tableIn (off := 568) (tgt := 608) hx hb dL_law_40 (by rw [c11]; decide) (by rw [c11]; decide) (by rw [c11]; rfl) (by decide) ?_
        exact lawc_width LC hCS hB hX0 hM0 hO0 hc.2.2.2.2.2.2.2.2.2.2.2.1 hw hl
      by_cases c12 : t = (12 : Int32)
      · refine lv_tableIn (off := 605) (tgt := 645) hx hb dL_law_40 (by rw [c12]; decide) (by rw [c12]; decide) (by rw [c12]; rfl) (by decide) ?_
        exact lawc_isVoid LC hCS hB hX0 hM0 hO0 hc.2.2.2.2.2.2.2.2.2.2.2.2.1 hw hl
      by_cases c13 : t = (13 : Int32)
      · refine lv_tableIn (off := 642) (tgt := 682) hx hb dL_law_40 (by rw [c13]; decide) (by rw [c13]; decide) (by rw [c13]; rfl) (by decide) ?_
        exact lawc_place LC hCS hB hX0 hM0 hO0 hc.2.2.2.2.2.2.2.2.2.2.2.2.2.1 hw hl
      by_cases c14 : t = (14 : Int32)
      · refine lv_tableIn (off := 709) (tgt := 749) hx hb dL_law_40 (by rw [c14]; decide) (by rw [c14]; decide) (by rw [c14]; rfl) (by decide) ?_
        exact lawc_at LC hCS hB hX0 hM0 hO0 hc.2.2.2.2.2.2.2.2.2.2.2.2.2.2.1 hw hl
      by_cases c15 : t = (15 : Int32)
      · refine lv_tableIn (off := 800) (tgt := 840) hx hb dL_law_40 (by rw [c15]; decide) (by rw [c15]; decide) (by rw [c15]; rfl) (by decide) ?_
        exact lawc_item LC hCS hB hX0 hM0 hO0 hc.2.2.2.2.2.2.2.2.2.2.2.2.2.2.2.1 hw hl
      by_cases c16 : t = (16 : Int32)
      · refine lv_tableIn (off := 868) (tgt := 908) hx hb dL_law_40 (by rw [c16]; decide) (by rw [c16]; decide) (by rw [c16]; rfl) (by decide) ?_
        exact lawc_count LC hCS hB hX0 hM0 hO0 hc.2.2.2.2.2.2.2.2.2.2.2.2.2.2.2.2 hw hl
      refine lv_tableOut (tgt := 975) hx hb dL_law_40 (by have z0 := lv_neT (a := 0) c0 rfl; have z1 := lv_neT (a := 1) c1 rfl; have z2 := lv_neT (a := 2) c2 rfl; have z3 := lv_neT (a := 3) c3 rfl; have z4 := lv_neT (a := 4) c4 rfl; have z5 := lv_neT (a := 5) c5 rfl; have z6 := lv_neT (a := 6) c6 rfl; have z7 := lv_neT (a := 7) c7 rfl; have z8 := lv_neT (a := 8) c8 rfl; have z9 := lv_neT (a := 9) c9 rfl; have z10 := lv_neT (a := 10) c10 rfl; have z11 := lv_neT (a := 11) c11 rfl; have z12 := lv_neT (a := 12) c12 rfl; have z13 := lv_neT (a := 13) c13 rfl; have z14 := lv_neT (a := 14) c14 rfl; have z15 := lv_neT (a := 15) c15 rfl; have z16 := lv_neT (a := 16) c16 rfl; omega) (by decide) ?_
      exact W.widen (by omega) (by omega) (hB _ _ _ _ _ _ _ hRn hw hl)
