/-! WHAT THROWS: one exception, made by four methods of the class, caught by the law's own four -/
abbrev exN : List String := ["java/lang/IndexOutOfBoundsException", "java/lang/RuntimeException", "java/lang/Exception"]
def wsE : List Cond := vx_at0 RX6 121 RJx00060 exN
theorem wsE_tbl : ∀ w ∈ wsE, w ∈ lw_tbl := fun w hw => of_decide_eq_true (List.all_eq_true.mp (show wsE.all (fun w => decide (w ∈ lw_tbl)) = true by decide +kernel) w hw)
def wEx : Cond → Bool
  | .castable .. => true
  | .declares .. => true
  | w => goodWord w
theorem wEs_all : wsE.all wEx = true := by decide +kernel
theorem wEs_tab : wsE.all Cond.onTables = true := by decide +kernel
theorem wEs_ot : ∀ w ∈ Cond.classLink RX6 119 RJx00060 :: Cond.initialized RJx00060 :: wsE, vx_ot w = true := fun w hw => List.all_eq_true.mp (show (Cond.classLink RX6 119 RJx00060 :: Cond.initialized RJx00060 :: wsE).all vx_ot = true by decide +kernel) w hw
theorem wsE_cast : Cond.castable RJx00060 RJx00060 ∈ wsE := by decide +kernel
theorem wEx_warm {w : Cond} {s U : State} (hw : wEx w = true) (ht : w.onTables = true) (hW : s.WarmedH U.vm) (h : va_Nw w s) : va_Nw w U := by
  by_cases hg : goodWord w = true
  · exact word_at hW (good_of_word hg) h
  · cases w with
    | castable => exact va_Nw.warmC hW h
    | declares => exact va_Nw.warmD hW h
    | _ => exact absurd hw hg
def mE (G : GX) (U : State) : Prop := (∀ w ∈ wsE, va_Nw w U) ∧ vx_Zq Bundle.tN "UNASSIGNED_STACK" Bundle.steD (mA G) U U.heap ∧ vx_Zq Bundle.tN "SUPPRESSED_SENTINEL" Bundle.listD (mA G) U U.heap
theorem mE.call {G : GX} {s U : State} {H : Heap} {locs : List Loc} (h : mE G s) (hS : va_S (mA G) s.heap H locs) (hU : U.heap = H) (hW : s.WarmedH U.vm) : mE G U :=
  ⟨fun w hw => wEx_warm (List.all_eq_true.mp wEs_all w hw) (List.all_eq_true.mp wEs_tab w hw) hW (h.1 w hw), by rw [hU]; exact vx_Zq.moved hW.alike (h.2.1.kept hS.2.1), by rw [hU]; exact vx_Zq.moved hW.alike (h.2.2.kept hS.2.1)⟩
theorem mE.moved {G : GX} {U : State} (h : mE G U) (g : JFrame) (mk : MethodId) (a : Array Value) : mE G (U.calling g mk a) :=
  ⟨fun w hw => va_Nw.same (u := U) (U := U.calling g mk a) (List.all_eq_true.mp wEs_tab w hw) rfl (h.1 w hw), vx_Zq.moved (u := U) (U := U.calling g mk a) (Vm.Alike.refl U.vm) h.2.1, vx_Zq.moved (u := U) (U := U.calling g mk a) (Vm.Alike.refl U.vm) h.2.2⟩
def mX (G : GX) (Sh : SH) (I : MI) (L : ML) (U : State) : Prop := mB G Sh I L U ∧ mE G U
theorem mX.blind {G : GX} {Sh : SH} {I : MI} {L : ML} {av : List Value} : FrameBlind (va_Pc av (mX G Sh I L)) := fun a U g mk h => ⟨h.1, h.2.1.moved g mk a, h.2.2.moved g mk a⟩
abbrev XCt (G : GX) (Sh : SH) (Kx : MI → ML → Prop) : String → State → State → Prop := vx_X (fun (u : MI × ML) => Kx u.1 u.2) (fun E (u : MI × ML) t => E = RJx00060 ∧ mM G Sh u.1 u.2 t.heap) (mA G)
abbrev XC0 (G : GX) : String → State → State → Prop := vx_X (fun (_ : Unit) => False) (fun _ _ _ => True) (mA G)
abbrev CtIX (l : Launch) (y : MethodName) (ws : List Cond) (rm : Room) (G : GX) (Sh : SH) (av : List Value) (I : MI) (L : ML) (K : Int32 → MI → ML → Prop) (Kx : MI → ML → Prop) : Prop := vx_Met l y ws rm (va_Pc av (mX G Sh I L)) (va_Qi (fun (r : Int32) (u : MI × ML) => K r u.1 u.2) (fun (u : MI × ML) t => mB G Sh u.1 u.2 t) (mA G)) (XCt G Sh Kx) 1 6 (mA G)
abbrev CtLX (l : Launch) (y : MethodName) (ws : List Cond) (rm : Room) (G : GX) (Sh : SH) (av : List Value) (I : MI) (L : ML) (K : Int64 → MI → ML → Prop) (Kx : MI → ML → Prop) : Prop := vx_Met l y ws rm (va_Pc av (mX G Sh I L)) (va_Ql (fun (r : Int64) (u : MI × ML) => K r u.1 u.2) (fun (u : MI × ML) t => mB G Sh u.1 u.2 t) (mA G)) (XCt G Sh Kx) 1 6 (mA G)
abbrev CtIH (l : Launch) (y : MethodName) (ws : List Cond) (rm : Room) (G : GX) (Sh : SH) (av : List Value) (I : MI) (L : ML) (K : Int32 → MI → ML → Prop) : Prop := vx_Met l y ws rm (va_Pc av (mX G Sh I L)) (va_Qi (fun (r : Int32) (u : MI × ML) => K r u.1 u.2) (fun (u : MI × ML) t => mB G Sh u.1 u.2 t) (mA G)) (XC0 G) 1 6 (mA G)
abbrev eIX (below : List Frame) (G : GX) (Sh : SH) (K : Int32 → MI → ML → Prop) (Kx : MI → ML → Prop) (args : Array Value) (s : State) : State → Prop := vx_MQ below (va_Qi (fun (r : Int32) (u : MI × ML) => K r u.1 u.2) (fun (u : MI × ML) t => mB G Sh u.1 u.2 t) (mA G)) (XCt G Sh Kx) args s 1 6 (mA G)
abbrev eLX (below : List Frame) (G : GX) (Sh : SH) (K : Int64 → MI → ML → Prop) (Kx : MI → ML → Prop) (args : Array Value) (s : State) : State → Prop := vx_MQ below (va_Ql (fun (r : Int64) (u : MI × ML) => K r u.1 u.2) (fun (u : MI × ML) t => mB G Sh u.1 u.2 t) (mA G)) (XCt G Sh Kx) args s 1 6 (mA G)
abbrev eIH (below : List Frame) (G : GX) (Sh : SH) (K : Int32 → MI → ML → Prop) (args : Array Value) (s : State) : State → Prop := vx_MQ below (va_Qi (fun (r : Int32) (u : MI × ML) => K r u.1 u.2) (fun (u : MI × ML) t => mB G Sh u.1 u.2 t) (mA G)) (XC0 G) args s 1 6 (mA G)
theorem ofX {l : Launch} {y : MethodName} {cc : ByteArray} {maxL : Nat} {ret : Option FieldType} {rm : Room} {own : String} {G : GX} {Sh : SH} {av : List Value} {I : MI} {L : ML} {Qc : Array Value → State → Outcome → State → Prop} {XC : String → State → State → Prop} (hy : plainName y.cls = true) (ho : y.cls = own) (hlen : (lg_sl av).length ≤ maxL)
    (body : ∀ p e s m args below meth c ls, Cx p s m args meth c cc ret maxL own → (∀ x ∈ c.exceptionTable.toList, False) → mE G s → mW G Sh s I L s.heap [] → lv_has ls maxL (lv_args 0 av) → W p l e rm s m args below meth c s.heap [] 0 0 (vx_MQ below Qc XC args s 1 6 (mA G)) (F0 m 0 ls [])) : vx_Met l y (wM y cc maxL ret) rm (va_Pc av (mX G Sh I L)) Qc XC 1 6 (mA G) := by
  refine vx_ofW (cc := cc) (maxL := maxL) (ret := ret) hy rfl ?_
  intro p e s m args below meth c s₁ B hml htb hv
  obtain ⟨rfl, hv, hE⟩ := hv
  have hts0 := atoms_spec (ws := wM y cc maxL ret) B.pre
  have hown : s.vm.findClass own = some m.cls := by rw [← ho]; exact findClass_of_methodNamed B.named
  have hl := lv_entry av (n := maxL) hlen
  rw [lg_entry_eq]
  generalize (lg_sl av ++ List.replicate (maxL - (lg_sl av).length) Slot.unset).toArray = ls at hl ⊢
  exact body p e s m _ below meth c ls ⟨B.exec, B.bytes, B.returns, hml, hown, fun w h => hts0 w (List.mem_cons_of_mem _ h), B.notSynchronized⟩ htb hE hv.start hl
def wMH (y : MethodName) (c : ByteArray) (n : Nat) (r : Option FieldType) (hh : List (Nat × Nat × Nat × Nat)) : List Cond := Cond.codeWith y c n r hh :: wsA
theorem ofH {l : Launch} {y : MethodName} {cc : ByteArray} {maxL : Nat} {ret : Option FieldType} {hh : List (Nat × Nat × Nat × Nat)} {rm : Room} {own : String} {G : GX} {Sh : SH} {av : List Value} {I : MI} {L : ML} {Qc : Array Value → State → Outcome → State → Prop} {XC : String → State → State → Prop} (hy : plainName y.cls = true) (ho : y.cls = own) (hlen : (lg_sl av).length ≤ maxL)
    (body : ∀ p e s m args below meth c ls, Cx p s m args meth c cc ret maxL own → c.exceptionTable.toList = tableOf hh → mE G s → mW G Sh s I L s.heap [] → lv_has ls maxL (lv_args 0 av) → W p l e rm s m args below meth c s.heap [] 0 0 (vx_MQ below Qc XC args s 1 6 (mA G)) (F0 m 0 ls [])) : vx_Met l y (wMH y cc maxL ret hh) rm (va_Pc av (mX G Sh I L)) Qc XC 1 6 (mA G) := by
  refine vx_ofWH (cc := cc) (maxL := maxL) (ret := ret) (hh := hh) hy rfl ?_
  intro p e s m args below meth c s₁ B hml hv
  obtain ⟨rfl, hv, hE⟩ := hv
  have hts0 := atoms_spec (ws := wMH y cc maxL ret hh) B.pre
  have hown : s.vm.findClass own = some m.cls := by rw [← ho]; exact findClass_of_methodNamed B.named
  have hl := lv_entry av (n := maxL) hlen
  have htab := vx_table (x := y) B (hts0 _ List.mem_cons_self)
  rw [lg_entry_eq]
  generalize (lg_sl av ++ List.replicate (maxL - (lg_sl av).length) Slot.unset).toArray = ls at hl ⊢
  exact body p e s m _ below meth c ls ⟨B.exec, B.bytes, B.returns, hml, hown, fun w h => hts0 w (List.mem_cons_of_mem _ h), B.notSynchronized⟩ htab hE hv.start hl
section XR
variable {p : Program} {l : Launch} {e : Env} {R : Room} {s : State} {m : MethodId} {args : Array Value} {below : List Frame} {meth : Method} {c : Code} {H : Heap} {locs : List Loc} {cells slots : Nat} {Q : State → Prop}
variable {cc bytes : ByteArray} {pc maxL nL n index : Nat} {ret : Option FieldType} {ls : Array Slot} {rest As : List Value} {a : Nat} {Ts ws : List Cond} {rm : Room} {y : MethodName} {own C host : String} {G : GX} {Sh : SH} {I : MI} {L : ML} {f : Shp}
theorem mW.preX (hw : mW G Sh s I L H locs) (hE : mE G s) : PreS s H (va_Pc As (mX G Sh I L)) As :=
  ⟨mX.blind, fun U hU hW => ⟨rfl, ⟨by rw [hU]; exact hw.1, va_K.moved hW.alike hw.2.1, by rw [hU]; exact hw.low, wNs.warm hW hw.2.2.2.2⟩, hE.call hw.2.2.1 hU hW⟩⟩
theorem r_iretX {K : Int32 → MI → ML → Prop} {Kx : MI → ML → Prop} {v : Int32} (hx : p.tables.exec = Jvm.exec) (hb : c.code = cc) (hr : meth.sig.returnType = some .int) (hlocks : meth.locks = false) (hw : mW G Sh s I L H locs) (hk : K v I L) (hdg : decode cc pc = .ok (.ireturn, 1)) : W p l e R s m args below meth c H locs 0 0 (eIX below G Sh K Kx args s) (F0 m pc ls [.int v]) :=
  vx_ret (W.widen (Nat.zero_le _) (Nat.zero_le _) (W.iret hx hb hr (fun t ht hW => ⟨⟨v, (I, L), rfl, hk, (hw.ends ht hW).1⟩, (hw.ends ht hW).2⟩) hw.2.2.1.2.2 hdg hlocks))
theorem r_lretX {K : Int64 → MI → ML → Prop} {Kx : MI → ML → Prop} {v : Int64} (hx : p.tables.exec = Jvm.exec) (hb : c.code = cc) (hr : meth.sig.returnType = some .long) (hlocks : meth.locks = false) (hw : mW G Sh s I L H locs) (hk : K v I L) (hdg : decode cc pc = .ok (.lreturn, 1)) : W p l e R s m args below meth c H locs 0 0 (eLX below G Sh K Kx args s) (F0 m pc ls [.long v]) :=
  vx_ret (W.widen (Nat.zero_le _) (Nat.zero_le _) (W.lret hx hb hr (fun t ht hW => ⟨⟨v, (I, L), rfl, hk, (hw.ends ht hW).1⟩, (hw.ends ht hW).2⟩) hw.2.2.1.2.2 hdg hlocks))
theorem r_iretH {K : Int32 → MI → ML → Prop} {v : Int32} (hx : p.tables.exec = Jvm.exec) (hb : c.code = cc) (hr : meth.sig.returnType = some .int) (hlocks : meth.locks = false) (hw : mW G Sh s I L H locs) (hk : K v I L) (hdg : decode cc pc = .ok (.ireturn, 1)) : W p l e R s m args below meth c H locs 1 6 (eIH below G Sh K args s) (F0 m pc ls [.int v]) :=
  vx_ret (W.iret hx hb hr (fun t ht hW => ⟨⟨v, (I, L), rfl, hk, (hw.ends ht hW).1⟩, (hw.ends ht hW).2⟩) hw.2.2.1.2.2 hdg hlocks)
theorem r_thr {Qc : Array Value → State → Outcome → State → Prop} {Kx : MI → ML → Prop} (hx : p.tables.exec = Jvm.exec) (hb : c.code = cc) (hST : l.stackTraces = false) (hown : s.vm.findClass RX6 = some m.cls) (hts : ∀ w ∈ wsA, w.before args s = true) (hE : mE G s) (htb : ∀ x ∈ c.exceptionTable.toList, False) (hw : mW G Sh s I L H locs) (hsz : ls.size = c.maxLocals) (hlocks : meth.locks = false) (hRf : 6 < R.frames) (hRl : (rest.map fun v => v.category).sum + 94 ≤ R.locals) (hRc : 1 ≤ R.cells) (hRs : 6 ≤ R.slots) (hk : Kx I L)
    (d0 : decode cc pc = .ok (.new 119, 3)) (d3 : decode cc (pc + 3) = .ok (.dup, 1)) (d4 : decode cc (pc + 4) = .ok (.invokespecial 121, 3)) (d7 : decode cc (pc + 7) = .ok (.athrow, 1)) : W p l e R s m args below meth c H locs 0 0 (vx_MQ below Qc (XCt G Sh Kx) args s 1 6 (mA G)) (F0 m pc ls rest) := by
  refine vx_throw0 (A := mA G) (names := exN) (ik := 119) (ic := 121) (cls := RJx00060) hx hb hST hown (by decide +kernel) (by decide +kernel) (hts _ k_602) (hts _ k_49) (fun w hw => va_Nw.use (List.all_eq_true.mp wEs_tab w hw) (hE.1 w hw)) wEs_ot hE.2.1 hE.2.2 hw.2.2.1 hsz d0 d3 d4 d7 (fun x hx => (htb x hx).elim) hRf hRl (by omega) (by omega) hlocks ?_ hw.2.2.1.2.2 (Nat.le_refl _) (Nat.le_refl _)
  intro t hal h1 h2
  refine ⟨(I, L), hk, ⟨rfl, fun b g hb => ⟨(hw.1 b g hb).1, (hw.1 b g hb).2.kept (h2 b (hw.lt hb))⟩⟩, Nat.le_trans hw.2.2.1.1 h1, fun q hq hA => ?_⟩
  rw [h2 q (Nat.lt_of_lt_of_le hq hw.2.2.1.1)]
  exact hw.2.2.1.2.1 q hq hA
theorem r_cvLX {K : Int64 → MI → ML → Prop} {Kx : MI → ML → Prop} (S : CallFix p m c cc nL s args Ts own) (hM : CtLX l y ws rm G Sh (.ref a :: As) I L K Kx) (cw : CallW R s args own C index y bytes maxL ret ws rm 1 6 n) (hw : mW G Sh s I L H locs) (hE : mE G s) (hr : ∃ cell : Cell, H[a]? = some cell ∧ cell.vm.isStatics = false ∧ s.vm.findClass C = some cell.cls) (hn : As.length = n) {st : List Value} (hst : st = As.reverse ++ .ref a :: rest) (hsz : ls.size = nL) (hW : (rest.map fun v => v.category).sum ≤ 8) (hf : cells + 1 ≤ R.cells ∧ slots + 6 ≤ R.slots) (hdg : decode cc pc = .ok (.invokevirtual index, 3))
    (kx : ∀ (ce : Cell) (q : Addr) (I1 : MI) (L1 : ML) (H1 : Heap) (locs1 : List Loc), Kx I1 L1 → mW G Sh s I1 L1 H1 locs1 → H1[q]? = some ce → ce.vm = .none → s.vm.findClass RJx00060 = some ce.cls → vx_W p l e R s m args below meth c H1 locs1 (cells + 1) (slots + 6) Q (F0 m pc ls rest) q)
    (kk : ∀ (r : Int64) (I1 : MI) (L1 : ML) (H1 : Heap) (locs1 : List Loc), K r I1 L1 → mW G Sh s I1 L1 H1 locs1 → W p l e R s m args below meth c H1 locs1 (cells + 1) (slots + 6) Q (F0 m (pc + 3) ls (.long r :: rest))) : W p l e R s m args below meth c H locs cells slots Q (F0 m pc ls st) :=
  vx_calll (vx_runV S hM cw ⟨mX.blind, hr, (hw.preX (As := .ref a :: As) hE).2⟩ rfl hn hsz hst (lv_room hW) hdg hf) hw.2.2.1 (fun _ _ h => h) (fun _ h => h) (fun _ _ h => h)
    (fun E ce q9 u t H1 locs1 ht hvm hk hB _ _ hS hc hv hcl => by obtain ⟨rfl, hB⟩ := hB; exact kx ce q9 u.1 u.2 H1 locs1 hk ⟨by rw [← ht]; exact hB, hw.2.1, hS, hw.2.2.2⟩ hc hv hcl)
    (fun r u t H1 locs1 ht hvm hk hB _ _ hS => kk r u.1 u.2 H1 locs1 hk ⟨by rw [← ht]; exact hB.1, hw.2.1, hS, hw.2.2.2⟩)
theorem r_cvIX {K : Int32 → MI → ML → Prop} {Kx : MI → ML → Prop} (S : CallFix p m c cc nL s args Ts own) (hM : CtIX l y ws rm G Sh (.ref a :: As) I L K Kx) (cw : CallW R s args own C index y bytes maxL ret ws rm 1 6 n) (hw : mW G Sh s I L H locs) (hE : mE G s) (hr : ∃ cell : Cell, H[a]? = some cell ∧ cell.vm.isStatics = false ∧ s.vm.findClass C = some cell.cls) (hn : As.length = n) {st : List Value} (hst : st = As.reverse ++ .ref a :: rest) (hsz : ls.size = nL) (hW : (rest.map fun v => v.category).sum ≤ 8) (hf : cells + 1 ≤ R.cells ∧ slots + 6 ≤ R.slots) (hdg : decode cc pc = .ok (.invokevirtual index, 3))
    (kx : ∀ (ce : Cell) (q : Addr) (I1 : MI) (L1 : ML) (H1 : Heap) (locs1 : List Loc), Kx I1 L1 → mW G Sh s I1 L1 H1 locs1 → H1[q]? = some ce → ce.vm = .none → s.vm.findClass RJx00060 = some ce.cls → vx_W p l e R s m args below meth c H1 locs1 (cells + 1) (slots + 6) Q (F0 m pc ls rest) q)
    (kk : ∀ (r : Int32) (I1 : MI) (L1 : ML) (H1 : Heap) (locs1 : List Loc), K r I1 L1 → mW G Sh s I1 L1 H1 locs1 → W p l e R s m args below meth c H1 locs1 (cells + 1) (slots + 6) Q (F0 m (pc + 3) ls (.int r :: rest))) : W p l e R s m args below meth c H locs cells slots Q (F0 m pc ls st) :=
  vx_calli (vx_runV S hM cw ⟨mX.blind, hr, (hw.preX (As := .ref a :: As) hE).2⟩ rfl hn hsz hst (lv_room hW) hdg hf) hw.2.2.1 (fun _ _ h => h) (fun _ h => h) (fun _ _ h => h)
    (fun E ce q9 u t H1 locs1 ht hvm hk hB _ _ hS hc hv hcl => by obtain ⟨rfl, hB⟩ := hB; exact kx ce q9 u.1 u.2 H1 locs1 hk ⟨by rw [← ht]; exact hB, hw.2.1, hS, hw.2.2.2⟩ hc hv hcl)
    (fun r u t H1 locs1 ht hvm hk hB _ _ hS => kk r u.1 u.2 H1 locs1 hk ⟨by rw [← ht]; exact hB.1, hw.2.1, hS, hw.2.2.2⟩)
/-- a call of one of the law's own four -/
theorem r_csH {K : Int32 → MI → ML → Prop} {hh : List (Nat × Nat × Nat × Nat)} (S : CallFix p m c cc nL s args Ts own) (hM : CtIH l y ws rm G Sh As I L K) (cw : vx_CSW R s args own index y bytes maxL ret hh ws rm 1 6 n) (hw : mW G Sh s I L H locs) (hE : mE G s) (hn : As.length = n) {st : List Value} (hst : st = As.reverse ++ rest) (hsz : ls.size = nL) (hW : (rest.map fun v => v.category).sum ≤ 8) (hf : cells + 1 ≤ R.cells ∧ slots + 6 ≤ R.slots) (hdg : decode cc pc = .ok (.invokestatic index, 3))
    (kk : ∀ (r : Int32) (I1 : MI) (L1 : ML) (H1 : Heap) (locs1 : List Loc), K r I1 L1 → mW G Sh s I1 L1 H1 locs1 → W p l e R s m args below meth c H1 locs1 (cells + 1) (slots + 6) Q (F0 m (pc + 3) ls (.int r :: rest))) : W p l e R s m args below meth c H locs cells slots Q (F0 m pc ls st) :=
  vx_calli (vx_runSX S hM cw (hw.preX hE) rfl hn hsz hst (lv_room hW) hdg hf) hw.2.2.1 (fun _ _ h => h) (fun _ h => h) (fun _ _ h => h)
    (fun E ce q9 u t H1 locs1 ht hvm hk hB _ _ hS hc hv hcl => hk.elim)
    (fun r u t H1 locs1 ht hvm hk hB _ _ hS => kk r u.1 u.2 H1 locs1 hk ⟨by rw [← ht]; exact hB.1, hw.2.1, hS, hw.2.2.2⟩)
theorem lk_H {hh : List (Nat × Nat × Nat × Nat)} (h1 : Cond.methodLink own index y ∈ wsA) (h2 : Cond.static y ∈ wsA) (h4 : Cond.initialized y.cls ∈ wsA) (h5 : Cond.codeWith y bytes maxL ret hh ∈ wsA) : GoodIn wsA (va_wsS own index y (wMH y bytes maxL ret hh)) := by
  refine wsA_G fun w h => ?_
  rcases List.mem_append.mp h with h | h
  · simp only [List.mem_cons, List.mem_nil_iff, or_false] at h
    rcases h with rfl | rfl | rfl <;> assumption
  · rcases List.mem_cons.mp h with rfl | h
    · exact h5
    · exact h
end XR
