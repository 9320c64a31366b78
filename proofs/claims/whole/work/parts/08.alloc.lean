/-! WHAT MAKES CELLS: the shapes' map grows; a new cell is the heap's next -/
def shu (Sh : SH) (a : Nat) (f : Shp) : SH := fun b => if b = a then some f else Sh b
def mz (I : MI) (a : Nat) : MI := fun b => if b = a then (fun _ => 0) else I b
def mzl (L : ML) (a : Nat) : ML := fun b => if b = a then (fun _ => 0) else L b
def shm (G : GX) (Sh : SH) (z N K : Nat) : SH := fun b => if b = z then some (sQ G 7 N (fun i => if i < N then some (z + 1 + i) else none)) else if z < b ∧ b ≤ z + N then some (sI G K) else Sh b
def mzm (I : MI) (z N : Nat) : MI := fun b => if z ≤ b ∧ b ≤ z + N then (fun _ => 0) else I b
theorem shu_at (Sh : SH) (a : Nat) (f : Shp) : shu Sh a f a = some f := if_pos rfl
theorem shu_off {Sh : SH} {a b : Nat} {f : Shp} (h : b ≠ a) : shu Sh a f b = Sh b := if_neg h
theorem mz_at (I : MI) (a : Nat) : mz I a a = fun _ => 0 := if_pos rfl
theorem mz_off {I : MI} {a b : Nat} (h : b ≠ a) : mz I a b = I b := if_neg h
theorem mzl_at (L : ML) (a : Nat) : mzl L a a = fun _ => 0 := if_pos rfl
theorem mzl_off {L : ML} {a b : Nat} (h : b ≠ a) : mzl L a b = L b := if_neg h
theorem mW.lt {G : GX} {Sh : SH} {I : MI} {L : ML} {s : State} {H : Heap} {locs : List Loc} (h : mW G Sh s I L H locs) {a : Nat} {f : Shp} (hs : Sh a = some f) : a < H.size := (h.1 a f hs).2.lt
theorem mW.low {G : GX} {Sh : SH} {I : MI} {L : ML} {s : State} {H : Heap} {locs : List Loc} (h : mW G Sh s I L H locs) : G.2.2 ≤ H.size := Nat.le_trans h.2.2.2.1 h.2.2.1.1
theorem sh_new {G : GX} {Sh Sh1 : SH} {I : MI} {L : ML} {s : State} {H : Heap} {locs : List Loc} {z a : Nat} {f g : Shp} (h : mW G Sh s I L H locs) (hz : H.size = z) (hs : Sh a = some f) (e : Sh1 = shu Sh z g) : Sh1 a = some f := by
  rw [e, shu_off (Nat.ne_of_lt (by rw [← hz]; exact h.lt hs))]
  exact hs
theorem mW.grow {G : GX} {Sh : SH} {I : MI} {L : ML} {s : State} {H H1 : Heap} {locs : List Loc} {z : Nat} (h : mW G Sh s I L H locs) (hz : H.size = z) {f : Shp} (he : va_at G.1 vwCl (z, f (fun _ => 0) (fun _ => 0)) H1) (z1 : H1.size = z + 1) (o1 : ∀ q, q < z → H1[q]? = H[q]?) : mW G (shu Sh z f) s (mz I z) (mzl L z) H1 locs := by
  have hlow := h.low
  refine ⟨fun b g hb => ?_, h.2.1, ⟨by rw [z1]; have := h.2.2.1.1; omega, fun x h1 h2 => (o1 x (by have := h.2.2.1.1; omega)).trans (h.2.2.1.2.1 x h1 h2), h.2.2.1.2.2⟩, h.2.2.2⟩
  by_cases e : b = z
  · subst e
    rw [shu_at] at hb
    cases hb
    rw [mz_at, mzl_at]
    exact ⟨by omega, he⟩
  · rw [shu_off e] at hb
    rw [mz_off e, mzl_off e]
    have hl := h.lt hb
    exact ⟨(h.1 b g hb).1, (h.1 b g hb).2.kept (o1 b (by omega))⟩
/-- one cell is written, and is of another shape then -/
theorem mW.wrS {G : GX} {Sh : SH} {I : MI} {L : ML} {s : State} {H H1 : Heap} {locs : List Loc} (h : mW G Sh s I L H locs) {a k : Nat} {f : Shp} (hs : Sh a = some f) (g : Shp) (he : va_at G.1 vwCl (a, g (I a) (L a)) H1) (z : H1.size = H.size) (oq : ∀ q : Nat, q ≠ a → H1[q]? = H[q]?) : mW G (shu Sh a g) s I L H1 (locs ++ [⟨a, k⟩]) := by
  refine ⟨fun b g2 hb => ?_, h.2.1, h.2.2.1.put z oq (h.1 a f hs).1, h.2.2.2⟩
  by_cases e : b = a
  · subst e
    rw [shu_at] at hb
    cases hb
    exact ⟨(h.1 b f hs).1, he⟩
  · rw [shu_off e] at hb
    exact ⟨(h.1 b g2 hb).1, (h.1 b g2 hb).2.kept (oq b e)⟩
-- objects half made: the first k references are there
def sPreK (k r : Nat) : Shp := fun i _ => .inr (5, [if 0 < k then .ref (r + 1) else .null, if 1 < k then .ref (r + 2) else .null, if 2 < k then .ref (r + 3) else .null, .int (i 3), .int (i 4), .int (i 5), .int (i 6), .int (i 7)])
def sRowK (k r : Nat) : Shp := fun i _ => .inr (6, [if 0 < k then .ref (r + 1) else .null, if 1 < k then .ref (r + 2) else .null, if 2 < k then .ref (r + 3) else .null, .int (i 3), .int (i 4)])
def sLastK (k r : Nat) : Shp := fun i j => .inr (3, [if 0 < k then .ref (r + 1) else .null, if 1 < k then .ref (r + 2) else .null, if 2 < k then .ref (r + 3) else .null, if 3 < k then .ref (r + 4) else .null, if 4 < k then .ref (r + 5) else .null, if 5 < k then .ref (r + 6) else .null, if 6 < k then .ref (r + 7) else .null, .int (i 7), .int (i 8), .long (j 9), .long (j 10), .int (i 11), .long (j 12)])
def sNeedsK (k r : Nat) : Shp := fun _ _ => .inr (4, [if 0 < k then .ref (r + 1) else .null])
def sTableK (k r : Nat) : Shp := fun i _ => .inr (7, [if 0 < k then .ref (r + 1) else .null, if 1 < k then .ref (r + 5) else .null, if 2 < k then .ref (r + 6) else .null, if 3 < k then .ref (r + 7) else .null, if 4 < k then .ref (r + 8) else .null, .int (i 5), .int (i 6), .int (i 7), .int (i 8)])
def sXK (k r : Nat) : Shp := fun i _ => .inr (8, [if 0 < k then .ref (r + 1) else .null, .int (i 1)])
def sModelK (k r : Nat) : Shp := fun i _ => .inr (9, [.int (i 0), .int (i 1), if 0 < k then .ref (r + 1) else .null, if 1 < k then .ref (r + 2) else .null, if 2 < k then .ref (r + 3) else .null, if 3 < k then .ref (r + 4) else .null, if 4 < k then .ref (r + 5) else .null, if 5 < k then .ref (r + 6) else .null, if 6 < k then .ref (r + 7) else .null, if 7 < k then .ref (r + 8) else .null, if 8 < k then .ref (r + 9) else .null, if 9 < k then .ref (r + 10) else .null, if 10 < k then .ref (r + 11) else .null, if 11 < k then .ref (r + 12) else .null, if 12 < k then .ref (r + 13) else .null, if 13 < k then .ref (r + 14) else .null, if 14 < k then .ref (r + 15) else .null, if 15 < k then .ref (r + 16) else .null, if 16 < k then .ref (r + 17) else .null, if 17 < k then .ref (r + 18) else .null, if 18 < k then .ref (r + 19) else .null, if 19 < k then .ref (r + 20) else .null, if 20 < k then .ref (r + 21) else .null, if 21 < k then .ref (r + 22) else .null, if 22 < k then .ref (r + 23) else .null, if 23 < k then .ref (r + 24) else .null, if 24 < k then .ref (r + 25) else .null, if 25 < k then .ref (r + 26) else .null, if 26 < k then .ref (r + 27) else .null, if 27 < k then .ref (r + 28) else .null, if 28 < k then .ref (r + 29) else .null, if 29 < k then .ref (r + 30) else .null, if 30 < k then .ref (r + 31) else .null, if 31 < k then .ref (r + 32) else .null, if 32 < k then .ref (r + 33) else .null, if 33 < k then .ref (r + 34) else .null, .int (i 36), .int (i 37)])
theorem sPreK_3 (r : Nat) : sPreK 3 r = sPre r := rfl
theorem sRowK_3 (r : Nat) : sRowK 3 r = sRow r := rfl
theorem sLastK_7 (r : Nat) : sLastK 7 r = sLast r := rfl
theorem sNeedsK_1 (r : Nat) : sNeedsK 1 r = sNeeds r := rfl
theorem sTableK_5 (r : Nat) : sTableK 5 r = sTable r := rfl
theorem sXK_1 (r : Nat) : sXK 1 r = sX r := rfl
theorem sModelK_34 (r : Nat) : sModelK 34 r = sModel r := rfl
section AR
variable {p : Program} {l : Launch} {e : Env} {R : Room} {s : State} {m : MethodId} {args : Array Value} {below : List Frame} {meth : Method} {c : Code} {H : Heap} {locs : List Loc} {cells slots : Nat} {Q : State → Prop}
variable {cc : ByteArray} {pc z : Nat} {ls : Array Slot} {rest : List Value} {a : Nat} {Ts : List Cond} {G : GX} {Sh : SH} {I : MI} {L : ML} {f : Shp}
theorem r_new (hx : p.tables.exec = Jvm.exec) (hb : c.code = cc) (hts : ∀ w ∈ Ts, w.before args s = true) {own C : String} {T : u_T} {N ci index : Nat} (hown : s.vm.findClass own = some m.cls) (hin : ∀ w ∈ u_ws C T N, w ∈ Ts) (ty : Nat → FieldType) (hty : ∀ k, k < N → parseFieldDescriptor (T k).2.2.1 = some (ty k)) (hcl : (Cond.classLink own index C).before args s = true) (hinst : (Cond.instantiable C N).before args s = true) (hini : (Cond.initialized C).before args s = true)
    (hw : mW G Sh s I L H locs) (hz : H.size = z) (hc : vwCl[ci]? = some (C, T, N)) (f : Shp) {fs : List Value} (hf : f (fun _ => 0) (fun _ => 0) = .inr (ci, fs)) (hfs : ∀ j, j < N → defaultValue (ty j) = vp_V fs j) (hcells : cells + 1 ≤ R.cells) (hslots : slots + N ≤ R.slots) (hdg : decode cc pc = .ok (.new index, 3))
    (kk : ∀ (Sh1 : SH) (I1 : MI) (L1 : ML) (H1 : Heap), Sh1 = shu Sh z f → I1 = mz I z → L1 = mzl L z → mW G Sh1 s I1 L1 H1 locs → H1.size = z + 1 → W p l e R s m args below meth c H1 locs (cells + 1) (slots + N) Q (F0 m (pc + 3) ls (.ref z :: rest))) : W p l e R s m args below meth c H locs cells slots Q (F0 m pc ls rest) := by
  have hKn := hw.2.1.1 ci _ hc
  refine W.newcK hx hb hown hcl hinst hini rfl hdg hcells hslots hKn.2.1 hz fun H1 kC hkC e1 z1 o1 => ?_
  refine kk _ _ _ H1 rfl rfl rfl (hw.grow hz ?_ z1 o1) z1
  rw [hf]
  exact ⟨_, hc, (u_born ty hts hin hKn hkC e1 hty).to hfs⟩
theorem r_newa {atype : ArrayType} {ty : FieldType} (hty : newarray.typeOf atype = ty) {k : Nat} (hx : p.tables.exec = Jvm.exec) (hb : c.code = cc) (harr : (Cond.arrayClass ty).before args s = true) (hw : mW G Sh s I L H locs) (hRA : s.vm.findClass ("[" ++ ty.toString) = some (G.2.1 k)) (hz : H.size = z) {n : Int32} {N' : Nat} {a0 : vp_A} (f : Shp) (hf : f (fun _ => 0) (fun _ => 0) = .inl (G.2.1 k, a0)) (ha : ∀ cA : ClassId, vp_cell cA a0 = arrV cA N' (fun _ => defaultValue ty)) (hn : ¬ n < 0) (hN : n.toNatClampNeg = N') (hbytes : N' * componentBytes ty ≤ 536870912) (hcells : cells + 1 ≤ R.cells) (hslots : slots + N' ≤ R.slots) (hdg : decode cc pc = .ok (.newarray atype, 2))
    (kk : ∀ (Sh1 : SH) (I1 : MI) (L1 : ML) (H1 : Heap), Sh1 = shu Sh z f → I1 = mz I z → L1 = mzl L z → mW G Sh1 s I1 L1 H1 locs → H1.size = z + 1 → W p l e R s m args below meth c H1 locs (cells + 1) (slots + N') Q (F0 m (pc + 2) ls (.ref z :: rest))) : W p l e R s m args below meth c H locs cells slots Q (F0 m pc ls (.int n :: rest)) := by
  subst hty
  refine va_newaK hx hb harr rfl hdg rfl hn hN hbytes hcells hslots hz fun H1 cA e1 z1 o1 hAr hNm => ?_
  have hcA : cA = G.2.1 k := Option.some.inj (hNm.symm.trans hRA)
  subst hcA
  refine kk _ _ _ H1 rfl rfl rfl (hw.grow hz ?_ z1 o1) z1
  rw [hf]
  show H1[z]? = some (vp_cell _ _)
  rw [ha]
  exact e1
theorem r_newI (hx : p.tables.exec = Jvm.exec) (hb : c.code = cc) (harr : (Cond.arrayClass .int).before args s = true) (hw : mW G Sh s I L H locs) (hz : H.size = z) {n : Int32} {N' : Nat} (hn : ¬ n < 0) (hN : n.toNatClampNeg = N') (hbytes : N' * componentBytes .int ≤ 536870912) (hcells : cells + 1 ≤ R.cells) (hslots : slots + N' ≤ R.slots) (hdg : decode cc pc = .ok (.newarray .int, 2))
    (kk : ∀ (Sh1 : SH) (I1 : MI) (L1 : ML) (H1 : Heap), Sh1 = shu Sh z (sI G N') → I1 = mz I z → L1 = mzl L z → mW G Sh1 s I1 L1 H1 locs → H1.size = z + 1 → W p l e R s m args below meth c H1 locs (cells + 1) (slots + N') Q (F0 m (pc + 2) ls (.ref z :: rest))) : W p l e R s m args below meth c H locs cells slots Q (F0 m pc ls (.int n :: rest)) :=
  r_newa (ty := .int) (k := 0) rfl hx hb harr hw (hw.2.1.2 0 (G.2.1 0, .int) rfl).2 hz (sI G N') (a0 := (N', .inl (fun _ => 0))) rfl (fun cA => by rw [vp_cell_i]; rfl) hn hN hbytes hcells hslots hdg kk
theorem r_newZ (hx : p.tables.exec = Jvm.exec) (hb : c.code = cc) (harr : (Cond.arrayClass .boolean).before args s = true) (hw : mW G Sh s I L H locs) (hz : H.size = z) {n : Int32} {N' : Nat} (hn : ¬ n < 0) (hN : n.toNatClampNeg = N') (hbytes : N' * componentBytes .boolean ≤ 536870912) (hcells : cells + 1 ≤ R.cells) (hslots : slots + N' ≤ R.slots) (hdg : decode cc pc = .ok (.newarray .boolean, 2))
    (kk : ∀ (Sh1 : SH) (I1 : MI) (L1 : ML) (H1 : Heap), Sh1 = shu Sh z (sZ G N') → I1 = mz I z → L1 = mzl L z → mW G Sh1 s I1 L1 H1 locs → H1.size = z + 1 → W p l e R s m args below meth c H1 locs (cells + 1) (slots + N') Q (F0 m (pc + 2) ls (.ref z :: rest))) : W p l e R s m args below meth c H locs cells slots Q (F0 m pc ls (.int n :: rest)) :=
  r_newa (ty := .boolean) (k := 1) rfl hx hb harr hw (hw.2.1.2 1 (G.2.1 1, .boolean) rfl).2 hz (sZ G N') (a0 := (N', .inl (fun _ => 0))) rfl (fun cA => by rw [vp_cell_i]; rfl) hn hN hbytes hcells hslots hdg kk
theorem r_newC (hx : p.tables.exec = Jvm.exec) (hb : c.code = cc) (harr : (Cond.arrayClass .char).before args s = true) (hw : mW G Sh s I L H locs) (hz : H.size = z) {n : Int32} {N' : Nat} (hn : ¬ n < 0) (hN : n.toNatClampNeg = N') (hbytes : N' * componentBytes .char ≤ 536870912) (hcells : cells + 1 ≤ R.cells) (hslots : slots + N' ≤ R.slots) (hdg : decode cc pc = .ok (.newarray .char, 2))
    (kk : ∀ (Sh1 : SH) (I1 : MI) (L1 : ML) (H1 : Heap), Sh1 = shu Sh z (sC G N') → I1 = mz I z → L1 = mzl L z → mW G Sh1 s I1 L1 H1 locs → H1.size = z + 1 → W p l e R s m args below meth c H1 locs (cells + 1) (slots + N') Q (F0 m (pc + 2) ls (.ref z :: rest))) : W p l e R s m args below meth c H locs cells slots Q (F0 m pc ls (.int n :: rest)) :=
  r_newa (ty := .char) (k := 2) rfl hx hb harr hw (hw.2.1.2 2 (G.2.1 2, .char) rfl).2 hz (sC G N') (a0 := (N', .inl (fun _ => 0))) rfl (fun cA => by rw [vp_cell_i]; rfl) hn hN hbytes hcells hslots hdg kk
theorem r_newJ (hx : p.tables.exec = Jvm.exec) (hb : c.code = cc) (harr : (Cond.arrayClass .long).before args s = true) (hw : mW G Sh s I L H locs) (hz : H.size = z) {n : Int32} {N' : Nat} (hn : ¬ n < 0) (hN : n.toNatClampNeg = N') (hbytes : N' * componentBytes .long ≤ 536870912) (hcells : cells + 1 ≤ R.cells) (hslots : slots + N' ≤ R.slots) (hdg : decode cc pc = .ok (.newarray .long, 2))
    (kk : ∀ (Sh1 : SH) (I1 : MI) (L1 : ML) (H1 : Heap), Sh1 = shu Sh z (sJ G N') → I1 = mz I z → L1 = mzl L z → mW G Sh1 s I1 L1 H1 locs → H1.size = z + 1 → W p l e R s m args below meth c H1 locs (cells + 1) (slots + N') Q (F0 m (pc + 2) ls (.ref z :: rest))) : W p l e R s m args below meth c H locs cells slots Q (F0 m pc ls (.int n :: rest)) :=
  r_newa (ty := .long) (k := 3) rfl hx hb harr hw (hw.2.1.2 3 (G.2.1 3, .long) rfl).2 hz (sJ G N') (a0 := (N', .inr (.inl (fun _ => 0)))) rfl (fun cA => by rw [vp_cell_l]; rfl) hn hN hbytes hcells hslots hdg kk
theorem r_newQ (hx : p.tables.exec = Jvm.exec) (hb : c.code = cc) {own C : String} {index k : Nat} (hown : s.vm.findClass own = some m.cls) (hclink : (Cond.classLink own index C).before args s = true) (hover : va_Nw (.arrayOver (.object C)) s) (hw : mW G Sh s I L H locs) (hk : (mtys G.2.1)[k]? = some (G.2.1 k, .object C)) (hz : H.size = z) {n : Int32} {N' : Nat} (hn : ¬ n < 0) (hN : n.toNatClampNeg = N') (hbytes : N' * 4 ≤ 536870912) (hcells : cells + 1 ≤ R.cells) (hslots : slots + N' ≤ R.slots) (hdg : decode cc pc = .ok (.anewarray index, 3))
    (kk : ∀ (Sh1 : SH) (I1 : MI) (L1 : ML) (H1 : Heap), Sh1 = shu Sh z (sQ G k N' (fun _ => none)) → I1 = mz I z → L1 = mzl L z → mW G Sh1 s I1 L1 H1 locs → H1.size = z + 1 → W p l e R s m args below meth c H1 locs (cells + 1) (slots + N') Q (F0 m (pc + 3) ls (.ref z :: rest))) : W p l e R s m args below meth c H locs cells slots Q (F0 m pc ls (.int n :: rest)) := by
  subst hN
  refine W.anew hx hb hown hclink (va_AO.use hover) rfl hdg rfl hn hbytes hcells hslots fun cA kA comp f1 f2 f3 f4 => ?_
  generalize hH1 : H.push ({ cls := cA, slots := Array.replicate n.toNatClampNeg .null, vm := .none } : Cell) = H1
  have z1 : H1.size = H.size + 1 := by rw [← hH1, Array.size_push]
  have e1 : H1[H.size]? = some (arrV cA n.toNatClampNeg (fun _ => .null)) := by rw [← hH1, Array.getElem?_push_size, ← arrV_new]
  have o1 : ∀ q : Nat, q < H.size → H1[q]? = H[q]? := fun q hq => by rw [← hH1, Array.getElem?_push, if_neg (Nat.ne_of_lt hq)]
  obtain ⟨-, kB, cB, g1, g2, g3, g4⟩ := hw.2.1.2 k _ hk
  have hcA : cA = G.2.1 k := Option.some.inj (f1.symm.trans g4)
  subst hcA
  subst hz
  refine kk _ _ _ H1 rfl rfl rfl (hw.grow rfl ?_ z1 o1) z1
  show H1[H.size]? = some (vp_cell _ _)
  rw [vp_cell_q]
  exact e1
theorem r_outer (c : ClassId) (N h0 : Nat) : ∀ i : Nat, Jvm.Free.Multi.outerC c N h0 i = arrV c N (fun j => va_rf (if j < i then some (h0 + 1 + j) else none))
  | 0 => by
    show ({ cls := c, slots := Array.replicate N .null, vm := .none } : Cell) = _
    rw [arrV_new]
    refine congrArg (arrV c N) (funext fun j => ?_)
    simp [va_rf]
  | i + 1 => by
    show (Jvm.Free.Multi.outerC c N h0 i).setSlot i (.ref (h0 + 1 + i)) = _
    rw [r_outer c N h0 i, arrV_store]
    refine congrArg (arrV c N) (funext fun j => ?_)
    by_cases e : j = i
    · subst e
      simp [updV, va_rf]
    · by_cases h : j < i
      · simp [updV, e, h, Nat.lt_succ_of_lt h]
      · simp [updV, e, h, show ¬ j < i + 1 by omega]
theorem r_mna (hx : p.tables.exec = Jvm.exec) (hb : c.code = cc) {own : String} {index : Nat} (hown : s.vm.findClass own = some m.cls) (hclink : (Cond.classLink own index ("[" ++ (FieldType.array .int).toString)).before args s = true) (hover : va_Nw (.arrayOver (.array .int)) s) (harr : (Cond.arrayClass .int).before args s = true) (hw : mW G Sh s I L H locs) (hz : H.size = z) {n k : Int32} {N' K' : Nat} (hn : ¬ n < 0) (hk : ¬ k < 0) (hN : n.toNatClampNeg = N') (hM : k.toNatClampNeg = K') (hb1 : N' * 4 ≤ 536870912) (hb2 : K' * componentBytes .int ≤ 536870912) (hb3 : K' ≤ 536870912) (hcells : cells + (1 + N') ≤ R.cells) (hslots : slots + (N' + N' * K') ≤ R.slots) (hdg : decode cc pc = .ok (.multianewarray index 2, 4))
    (kk : ∀ (Sh1 : SH) (I1 : MI) (H1 : Heap), Sh1 = shm G Sh z N' K' → I1 = mzm I z N' → mW G Sh1 s I1 L H1 locs → H1.size = z + 1 + N' → W p l e R s m args below meth c H1 locs (cells + 1 + N') (slots + N' + N' * K') Q (F0 m (pc + 4) ls (.ref z :: rest))) : W p l e R s m args below meth c H locs cells slots Q (F0 m pc ls (.int k :: .int n :: rest)) := by
  subst hN
  subst hM
  intro T hT Xs
  obtain ⟨vm₁, cA, comp, -, fA, fC, hO, -, X', step⟩ := Xs.multianewarray2F hx hown hclink (wOx_moved (w := .arrayOver (.array .int)) rfl (Vm.Alike.refl _) hover) harr (g := F0 m pc ls (.int k :: .int n :: rest)) rfl (by rw [hb]; exact hdg) rfl hn hk hb1 hb2 hb3 rfl rfl hcells hslots
  have h7 := (hw.2.1.2 7 (G.2.1 7, .array .int) rfl).2
  have h0 := (hw.2.1.2 0 (G.2.1 0, .int) rfl).2
  have ec : comp = G.2.1 0 := Option.some.inj (fC.symm.trans h0)
  have eA : cA = G.2.1 7 := Option.some.inj (fA.symm.trans h7)
  subst ec
  subst eA
  generalize hF : Jvm.Free.Multi.fill (T.setVm vm₁) (G.2.1 7) (G.2.1 0) n.toNatClampNeg k.toNatClampNeg (defaultValue .int) n.toNatClampNeg = F at X' step
  have hTh : (T.setVm vm₁).heap = H := hT
  obtain ⟨f1, f2, -, -⟩ := Jvm.Free.Multi.fill_facts (T.setVm vm₁) (G.2.1 7) (G.2.1 0) n.toNatClampNeg k.toNatClampNeg (defaultValue .int) n.toNatClampNeg
  rw [hF, hTh] at f1 f2
  have hold : ∀ x : Nat, x < H.size → F.heap[x]? = H[x]? := fun x hx => by
    have := Jvm.Free.Multi.fill_old (T.setVm vm₁) (G.2.1 7) (G.2.1 0) n.toNatClampNeg k.toNatClampNeg (defaultValue .int) (a := x) (by rw [hTh]; exact hx) n.toNatClampNeg
    rw [hF, hTh] at this
    exact this
  have hrow : ∀ j : Nat, j < n.toNatClampNeg → F.heap[H.size + 1 + j]? = some (Jvm.Free.Multi.innerC (G.2.1 0) k.toNatClampNeg (defaultValue .int)) := fun j hj => by
    have := Jvm.Free.Multi.fill_inner (T.setVm vm₁) (G.2.1 7) (G.2.1 0) n.toNatClampNeg k.toNatClampNeg (defaultValue .int) n.toNatClampNeg j hj
    rw [hF, hTh] at this
    exact this
  rw [r_outer] at f2
  subst hz
  have hlow := hw.low
  have hmW : mW G (shm G Sh H.size n.toNatClampNeg k.toNatClampNeg) s (mzm I H.size n.toNatClampNeg) L F.heap locs := by
    refine ⟨fun b g hb => ?_, hw.2.1, ⟨by rw [f1]; have := hw.2.2.1.1; omega, fun x h1 h2 => (hold x (Nat.lt_of_lt_of_le h1 hw.2.2.1.1)).trans (hw.2.2.1.2.1 x h1 h2), hw.2.2.1.2.2⟩, hw.2.2.2⟩
    unfold shm at hb
    by_cases e : b = H.size
    · subst e
      rw [if_pos rfl] at hb
      cases hb
      exact ⟨hlow, f2⟩
    · rw [if_neg e] at hb
      by_cases e2 : H.size < b ∧ b ≤ H.size + n.toNatClampNeg
      · rw [if_pos e2] at hb
        cases hb
        refine ⟨by omega, ?_⟩
        have h9 := hrow (b - H.size - 1) (by omega)
        rw [show H.size + 1 + (b - H.size - 1) = b by omega] at h9
        have hz0 : mzm I H.size n.toNatClampNeg b = fun _ => 0 := if_pos (by omega)
        rw [hz0]
        show F.heap[b]? = some (vp_cell _ _)
        rw [vp_cell_i, h9]
        exact congrArg some (arrV_new _ _ _)
      · rw [if_neg e2] at hb
        have hl := hw.lt hb
        have hz0 : mzm I H.size n.toNatClampNeg b = I b := if_neg (by omega)
        rw [hz0]
        exact ⟨(hw.1 b g hb).1, (hw.1 b g hb).2.kept (hold b hl)⟩
  obtain ⟨t, a1, b1⟩ := kk _ _ F.heap rfl rfl hmW f1 F rfl X'
  refine ⟨t, step t ?_, b1⟩
  have e : T.heap.size = H.size := by rw [hT]
  rw [e]
  exact a1
/-- a final field, in its constructor -/
theorem r_putF (hx : p.tables.exec = Jvm.exec) (hb : c.code = cc) (hts : ∀ w ∈ Ts, w.before args s = true) {own C : String} {T : u_T} {N ci index : Nat} (hown : s.vm.findClass own = some m.cls) (hin : ∀ w ∈ u_ws C T N, w ∈ Ts) (ty0 : Nat → FieldType) (hty : ∀ k, k < N → parseFieldDescriptor (T k).2.2.1 = some (ty0 k)) (hnm : ∀ a, a < N → ∀ b, b < N → a ≠ b → (T a).2.1 ≠ (T b).2.1)
    (hw : mW G Sh s I L H locs) (hs : Sh a = some f) {fs : List Value} (hf : f (I a) (L a) = .inr (ci, fs)) (hc : vwCl[ci]? = some (C, T, N)) (k : Nat) (hk : k < N) (hlink : (Cond.fieldLink own index own (T k).2.1 (T k).2.2.1).before args s = true) (hdecl : (T k).1 = own) (hfin : (T k).2.2.2 = true) (hin2 : meth.name = "<init>") {v : Value} (hn : narrow (ty0 k) v = v) (hfit : fits (ty0 k) v = true) (hl : k < fs.length) (g : Shp) (hset : g (I a) (L a) = .inr (ci, fs.set k v)) (hdg : decode cc pc = .ok (.putfield index, 3))
    (kk : ∀ (Sh1 : SH) (H1 : Heap) (locs1 : List Loc), Sh1 = shu Sh a g → mW G Sh1 s I L H1 locs1 → H1.size = H.size → W p l e R s m args below meth c H1 locs1 cells slots Q (F0 m (pc + 3) ls rest)) : W p l e R s m args below meth c H locs cells slots Q (F0 m pc ls (v :: .ref a :: rest)) := by
  have hK := hw.2.1
  have hap := va_apart (own := own) hts hin ty0 hty hnm hK hc
  have he := (hw.1 a f hs).2
  rw [hf] at he
  obtain ⟨r, h1, cell, q1, q2, q3, q4⟩ := he
  have hr : r = (C, T, N) := Option.some.inj (h1.symm.trans hc)
  subst hr
  obtain ⟨hS, hfc, kC, hkC, hkind⟩ := hK.1 ci _ hc
  obtain ⟨cf, kf, fi, fd, hi, hsl⟩ := hS k hk
  have hlay := hts _ (hin _ (u_in_lay hk))
  unfold u_lay at hlay
  rw [if_pos hfin] at hlay
  have hst := (u_facts hfc hkC (u_lays hts hin hk) hi).1
  have hcf : m.cls = cf := by
    obtain ⟨_, _, c', _, _, _, -, -, hf', -, -, -, hown2, -⟩ := Cond.laysFinal_spec hlay
    have e1 : c' = cf := by have := hi.symm.trans hf'; simp at this; exact this.1.symm
    rw [hdecl] at hown2
    rw [← e1]; exact Option.some.inj (hown.symm.trans hown2)
  have h6 := u_fits hfc hkC hkind (Or.inr hlay) hi (hty k hk) hn hfit
  have hi2 : s.fieldFound? own (T k).2.1 (T k).2.2.1 = some (cf, kf, fi, fd) := by rw [← hdecl]; exact hi
  refine W.putFinK hx hb hown hlink hi2 hst hcf hin2 (by rw [q2]; exact h6) q1 q3 (by rw [hsl]; exact k2_hasslot (q4 k hk)) rfl rfl hdg fun H' e1 e2 e3 => ?_
  rw [hsl] at e1 ⊢
  refine kk _ H' _ rfl (hw.wrS hs g ?_ e2 e3) e2
  rw [hset]
  exact ⟨_, hc, t_OB.to (V := updV (vp_V fs) k v) ⟨_, e1, q2, q3, t_set q4 hap hk v⟩ (fun j _ => vp_updV_set hl v j)⟩
theorem r_aast (hx : p.tables.exec = Jvm.exec) (hb : c.code = cc) (hw : mW G Sh s I L H locs) {k n v ci : Nat} {F : Nat → Option Nat} {r : vw_C} {fv : Shp} {vs : List Value} (hs : Sh a = some (sQ G k n F)) (ht : (mtys G.2.1)[k]? = some (G.2.1 k, .object r.1)) (hv : Sh v = some fv) (hfv : fv (I v) (L v) = .inr (ci, vs)) (hc : vwCl[ci]? = some r) {i : Int32} (hin : vp_in i n) (hdg : decode cc pc = .ok (.aastore, 1))
    (kk : ∀ (Sh1 : SH) (H1 : Heap) (locs1 : List Loc), Sh1 = shu Sh a (sQ G k n (va_up F i.toNatClampNeg (some v))) → mW G Sh1 s I L H1 locs1 → H1.size = H.size → W p l e R s m args below meth c H1 locs1 cells slots Q (F0 m (pc + 1) ls rest)) : W p l e R s m args below meth c H locs cells slots Q (F0 m pc ls (.ref v :: .int i :: .ref a :: rest)) := by
  have hlt : i.toNatClampNeg < n := vp_lt hin
  have h0 : ¬ i < 0 := fun q => hin (Or.inl q)
  have hev := (hw.1 v fv hv).2
  rw [hfv] at hev
  obtain ⟨r', hr', cellV, g1, g2, g3, -⟩ := hev
  have hcls := (hw.2.1.1 ci r hc).2
  obtain ⟨kA, comp, k1, k2, k3, -⟩ := (hw.2.1.2 k _ ht).2
  have hcomp : comp = G.1.1 ci := Option.some.inj (k3.symm.trans hcls.1)
  subst hcomp
  obtain ⟨kC, hkC, -⟩ := hcls.2
  refine W.aast hx hb (hw.one hs 0 _ rfl) (fun q h => by cases h) (fun h => by cases h) k1 k2 rfl hkC ⟨h0, by show _ < (arrV _ _ _).slots.size; rw [arrV_size]; exact hlt⟩ g1 (fun q h => by rw [g3] at h; cases h) (by rw [g2]; exact hkC) (by rw [g2]; exact va_assign hcls) rfl rfl hdg fun H1 e z oq => ?_
  refine kk _ H1 _ rfl (hw.wrS hs _ ?_ z oq) z
  show H1[a]? = some (vp_cell _ _)
  rw [e]
  rw [vp_cell_q, vp_cell_q, arrV_store]
  congr 2
  funext q
  by_cases hq : q = i.toNatClampNeg
  · subst hq
    simp [updV, va_up, va_rf]
  · simp [updV, va_up, hq]
end AR
def rmB (f c n l : Nat) : Room := { frames := f, cells := c, slots := n, locals := l }
def mBz (G : GX) (z : Nat) (Sh : SH) (I : MI) (L : ML) (U : State) : Prop := mB G Sh I L U ∧ U.heap.size = z
abbrev CtN (l : Launch) (y : MethodName) (ws : List Cond) (rm : Room) (G : GX) (z : Nat) (Sh : SH) (av : List Value) (I : MI) (L : ML) (K : Nat → SH → MI → ML → Prop) (mc ms : Nat) : Prop := Met l y ws rm (va_Pc av (mBz G z Sh I L)) (va_Qv (fun (u : Nat × SH × MI × ML) => K u.1 u.2.1 u.2.2.1 u.2.2.2) (fun (u : Nat × SH × MI × ML) t => mBz G u.1 u.2.1 u.2.2.1 u.2.2.2 t) (mA G)) mc ms (mA G)
abbrev CtT (l : Launch) (y : MethodName) (ws : List Cond) (rm : Room) (G : GX) (z : Nat) (Sh : SH) (av : List Value) (I : MI) (L : ML) (K : Int32 → Nat → SH → MI → ML → Prop) (mc ms : Nat) : Prop := Met l y ws rm (va_Pc av (mBz G z Sh I L)) (va_Qi (fun (r : Int32) (u : Nat × SH × MI × ML) => K r u.1 u.2.1 u.2.2.1 u.2.2.2) (fun (u : Nat × SH × MI × ML) t => mBz G u.1 u.2.1 u.2.2.1 u.2.2.2 t) (mA G)) mc ms (mA G)
abbrev eN (below : List Frame) (G : GX) (K : Nat → SH → MI → ML → Prop) (mc ms : Nat) (args : Array Value) (s : State) : State → Prop := MQ below (va_Qv (fun (u : Nat × SH × MI × ML) => K u.1 u.2.1 u.2.2.1 u.2.2.2) (fun (u : Nat × SH × MI × ML) t => mBz G u.1 u.2.1 u.2.2.1 u.2.2.2 t) (mA G)) args s mc ms (mA G)
abbrev eT (below : List Frame) (G : GX) (K : Int32 → Nat → SH → MI → ML → Prop) (mc ms : Nat) (args : Array Value) (s : State) : State → Prop := MQ below (va_Qi (fun (r : Int32) (u : Nat × SH × MI × ML) => K r u.1 u.2.1 u.2.2.1 u.2.2.2) (fun (u : Nat × SH × MI × ML) t => mBz G u.1 u.2.1 u.2.2.1 u.2.2.2 t) (mA G)) args s mc ms (mA G)
theorem mBz.blind {G : GX} {z : Nat} {Sh : SH} {I : MI} {L : ML} {av : List Value} : FrameBlind (va_Pc av (mBz G z Sh I L)) := fun a U g mk h => ⟨h.1, h.2.1.moved g mk a, h.2.2⟩
theorem ofN {l : Launch} {y : MethodName} {cc : ByteArray} {maxL : Nat} {ret : Option FieldType} {rm : Room} {own : String} {G : GX} {z : Nat} {Sh : SH} {av : List Value} {I : MI} {L : ML} {mc ms : Nat} {Qc : Array Value → State → Outcome → State → Prop} (hy : plainName y.cls = true) (ho : y.cls = own) (hlen : (lg_sl av).length ≤ maxL)
    (body : ∀ p e s m args below meth c ls, Cx p s m args meth c cc ret maxL own → meth.name = y.name → mW G Sh s I L s.heap [] → s.heap.size = z → lv_has ls maxL (lv_args 0 av) → W p l e rm s m args below meth c s.heap [] 0 0 (MQ below Qc args s mc ms (mA G)) (F0 m 0 ls [])) : Met l y (wM y cc maxL ret) rm (va_Pc av (mBz G z Sh I L)) Qc mc ms (mA G) := by
  refine Met.ofW (cc := cc) (maxL := maxL) (ret := ret) hy rfl ?_
  intro p e s m args below meth c s₁ B hml hv
  obtain ⟨rfl, hv, hz⟩ := hv
  have hts0 := atoms_spec (ws := wM y cc maxL ret) B.pre
  have hown : s.vm.findClass own = some m.cls := by rw [← ho]; exact findClass_of_methodNamed B.named
  have hl := lv_entry av (n := maxL) hlen
  rw [lg_entry_eq]
  generalize (lg_sl av ++ List.replicate (maxL - (lg_sl av).length) Slot.unset).toArray = ls at hl ⊢
  exact body p e s m _ below meth c ls ⟨B.exec, B.bytes, B.returns, hml, hown, fun w h => hts0 w (List.mem_cons_of_mem _ h), B.notSynchronized⟩ (name_of_methodNamed B.named B.method).1 hv.start hz hl
section AC
variable {p : Program} {l : Launch} {e : Env} {R : Room} {s : State} {m : MethodId} {args : Array Value} {below : List Frame} {meth : Method} {c : Code} {H : Heap} {locs : List Loc} {cells slots : Nat} {Q : State → Prop}
variable {cc bytes : ByteArray} {pc maxL nL n index mc ms z : Nat} {ret : Option FieldType} {ls : Array Slot} {rest As : List Value} {a : Nat} {Ts ws : List Cond} {rm : Room} {y : MethodName} {own C host : String} {G : GX} {Sh : SH} {I : MI} {L : ML} {f : Shp}
theorem mW.preI (hw : mW G Sh s I L H locs) (hz : H.size = z) : PreS s H (va_Pc As (mBz G z Sh I L)) As :=
  ⟨mBz.blind, fun U hU hW => ⟨rfl, ⟨by rw [hU]; exact hw.1, va_K.moved hW.alike hw.2.1, by rw [hU]; exact hw.low, wNs.warm hW hw.2.2.2.2⟩, by rw [hU]; exact hz⟩⟩
/-- a private constructor of a nest mate -/
theorem r_cnN {K : Nat → SH → MI → ML → Prop} (S : CallFix p m c cc nL s args Ts own) (hM : CtN l y ws rm G z Sh (.ref a :: As) I L K mc ms) (cw : va_CN R s args own index y host bytes maxL none ws rm mc ms n ∧ y.name = "<init>" ∧ (Cond.instanceMethod y).before args s = true) (hw : mW G Sh s I L H locs) (hz : H.size = z) (hn : As.length = n) {st : List Value} (hst : st = As.reverse ++ .ref a :: rest) (hsz : ls.size = nL) (hW : (rest.map fun v => v.category).sum ≤ 8) (hf : cells + mc ≤ R.cells ∧ slots + ms ≤ R.slots) (hdg : decode cc pc = .ok (.invokespecial index, 3))
    (kk : ∀ (z1 : Nat) (Sh1 : SH) (I1 : MI) (L1 : ML) (H1 : Heap) (locs1 : List Loc), K z1 Sh1 I1 L1 → mW G Sh1 s I1 L1 H1 locs1 → H1.size = z1 → W p l e R s m args below meth c H1 locs1 (cells + mc) (slots + ms) Q (F0 m (pc + 3) ls rest)) : W p l e R s m args below meth c H locs cells slots Q (F0 m pc ls st) :=
  va_callv (va_runIN S hM cw (hw.preI hz) rfl hn hsz hst (lv_room hW) hdg hf) hw.2.2.1 (fun _ _ h => h) (fun _ h => h) (fun u t H1 locs1 ht hvm hk hB _ _ hS => kk u.1 u.2.1 u.2.2.1 u.2.2.2 H1 locs1 hk ⟨by rw [← ht]; exact hB.1.1, hw.2.1, hS, hw.2.2.2⟩ (by rw [← ht]; exact hB.2))
theorem r_cnI {K : Nat → SH → MI → ML → Prop} (S : CallFix p m c cc nL s args Ts own) (hM : CtN l y ws rm G z Sh (.ref a :: As) I L K mc ms) (cw : CallB R s args own index y bytes maxL none ws rm mc ms n ∧ y.name = "<init>" ∧ (Cond.instanceMethod y).before args s = true) (hw : mW G Sh s I L H locs) (hz : H.size = z) (hn : As.length = n) {st : List Value} (hst : st = As.reverse ++ .ref a :: rest) (hsz : ls.size = nL) (hW : (rest.map fun v => v.category).sum ≤ 8) (hf : cells + mc ≤ R.cells ∧ slots + ms ≤ R.slots) (hdg : decode cc pc = .ok (.invokespecial index, 3))
    (kk : ∀ (z1 : Nat) (Sh1 : SH) (I1 : MI) (L1 : ML) (H1 : Heap) (locs1 : List Loc), K z1 Sh1 I1 L1 → mW G Sh1 s I1 L1 H1 locs1 → H1.size = z1 → W p l e R s m args below meth c H1 locs1 (cells + mc) (slots + ms) Q (F0 m (pc + 3) ls rest)) : W p l e R s m args below meth c H locs cells slots Q (F0 m pc ls st) :=
  va_callv (va_runI S hM cw (hw.preI hz) rfl hn hsz hst (lv_room hW) hdg hf) hw.2.2.1 (fun _ _ h => h) (fun _ h => h) (fun u t H1 locs1 ht hvm hk hB _ _ hS => kk u.1 u.2.1 u.2.2.1 u.2.2.2 H1 locs1 hk ⟨by rw [← ht]; exact hB.1.1, hw.2.1, hS, hw.2.2.2⟩ (by rw [← ht]; exact hB.2))
theorem r_cvT {K : Int32 → Nat → SH → MI → ML → Prop} (S : CallFix p m c cc nL s args Ts own) (hM : CtT l y ws rm G z Sh (.ref a :: As) I L K mc ms) (cw : CallW R s args own C index y bytes maxL ret ws rm mc ms n) (hw : mW G Sh s I L H locs) (hz : H.size = z) (hr : ∃ cell : Cell, H[a]? = some cell ∧ cell.vm.isStatics = false ∧ s.vm.findClass C = some cell.cls) (hn : As.length = n) {st : List Value} (hst : st = As.reverse ++ .ref a :: rest) (hsz : ls.size = nL) (hW : (rest.map fun v => v.category).sum ≤ 8) (hf : cells + mc ≤ R.cells ∧ slots + ms ≤ R.slots) (hdg : decode cc pc = .ok (.invokevirtual index, 3))
    (kk : ∀ (r : Int32) (z1 : Nat) (Sh1 : SH) (I1 : MI) (L1 : ML) (H1 : Heap) (locs1 : List Loc), K r z1 Sh1 I1 L1 → mW G Sh1 s I1 L1 H1 locs1 → H1.size = z1 → W p l e R s m args below meth c H1 locs1 (cells + mc) (slots + ms) Q (F0 m (pc + 3) ls (.int r :: rest))) : W p l e R s m args below meth c H locs cells slots Q (F0 m pc ls st) :=
  va_calli (va_runV S hM cw ⟨mBz.blind, hr, (hw.preI (As := .ref a :: As) hz).2⟩ rfl hn hsz hst (lv_room hW) hdg hf) hw.2.2.1 (fun _ _ h => h) (fun _ h => h) (fun r u t H1 locs1 ht hvm hk hB _ _ hS => kk r u.1 u.2.1 u.2.2.1 u.2.2.2 H1 locs1 hk ⟨by rw [← ht]; exact hB.1.1, hw.2.1, hS, hw.2.2.2⟩ (by rw [← ht]; exact hB.2))
theorem r_vretN {K : Nat → SH → MI → ML → Prop} (hx : p.tables.exec = Jvm.exec) (hb : c.code = cc) (hr : meth.sig.returnType = none) (hlocks : meth.locks = false) (hw : mW G Sh s I L H locs) (hz : H.size = z) (hk : (cells ≤ mc ∧ slots ≤ ms) ∧ K z Sh I L) (hdg : decode cc pc = .ok (.return_, 1)) : W p l e R s m args below meth c H locs cells slots (eN below G K mc ms args s) (F0 m pc ls []) :=
  W.widen hk.1.1 hk.1.2 (W.vret hx hb hr (fun t ht hW => ⟨⟨(z, Sh, I, L), rfl, hk.2, (hw.ends ht hW).1, by rw [ht]; exact hz⟩, (hw.ends ht hW).2⟩) hw.2.2.1.2.2 hdg hlocks)
theorem r_iretT {K : Int32 → Nat → SH → MI → ML → Prop} {v : Int32} (hx : p.tables.exec = Jvm.exec) (hb : c.code = cc) (hr : meth.sig.returnType = some .int) (hlocks : meth.locks = false) (hw : mW G Sh s I L H locs) (hz : H.size = z) (hk : (cells ≤ mc ∧ slots ≤ ms) ∧ K v z Sh I L) (hdg : decode cc pc = .ok (.ireturn, 1)) : W p l e R s m args below meth c H locs cells slots (eT below G K mc ms args s) (F0 m pc ls [.int v]) :=
  W.widen hk.1.1 hk.1.2 (W.iret hx hb hr (fun t ht hW => ⟨⟨v, (z, Sh, I, L), rfl, hk.2, (hw.ends ht hW).1, by rw [ht]; exact hz⟩, (hw.ends ht hW).2⟩) hw.2.2.1.2.2 hdg hlocks)
end AC
