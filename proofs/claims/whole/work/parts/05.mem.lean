/-! THE MEMORY: the law's whole world as two functions (ints, longs) of address and place, and a map of shapes. -/
abbrev MI : Type := Nat → Nat → Int32
abbrev ML : Type := Nat → Nat → Int64
/-- what a cell is, out of its row of ints and its row of longs -/
abbrev Shp : Type := (Nat → Int32) → (Nat → Int64) → va_E
abbrev SH : Type := Nat → Option Shp
/-- the classes' numbers and slots; the array classes; the first address that is ours -/
abbrev GX : Type := va_G × (Nat → ClassId) × Nat
abbrev mtys (cy : Nat → ClassId) : List (ClassId × FieldType) := [(cy 0, .int), (cy 1, .boolean), (cy 2, .char), (cy 3, .long), (cy 4, .object RX0), (cy 5, .object RX4), (cy 6, .object RX5), (cy 7, .array .int)]
def mA (G : GX) : Nat → Prop := fun q => G.2.2 ≤ q
def mM (G : GX) (Sh : SH) (I : MI) (L : ML) (H : Heap) : Prop := ∀ (a : Nat) (f : Shp), Sh a = some f → G.2.2 ≤ a ∧ va_at G.1 vwCl (a, f (I a) (L a)) H
/-- the words that no method's own list can bear: members of nest mates, classes of arrays of references -/
def wNx : Cond → Bool
  | .fieldLinkNest .. => true
  | .methodLinkNest .. => true
  | _ => false
def wOx : Cond → Bool
  | .arrayOver (.object _) => true
  | .arrayOver (.array _) => true
  | _ => false
def wNs (U : State) : Prop := (∀ w ∈ wsN, va_Nw w U) ∧ ∀ w ∈ wsO, va_Nw w U
theorem wNs_all : wsN.all wNx = true := by decide +kernel
theorem wOs_all : wsO.all wOx = true := by decide +kernel
theorem wOx_moved {w : Cond} {u U : State} (hw : wOx w = true) (hvm : u.vm.Alike U.vm) (h : va_Nw w u) : va_Nw w U := by
  cases w with
  | arrayOver t =>
    cases t with
    | object C => exact va_AO.moved hvm h
    | array t => exact Jvm.Stand.arrayOver_alikeB hvm h
    | _ => cases hw
  | _ => cases hw
theorem wNx_tab {w : Cond} (h : wNx w = true) : w.onTables = true := by
  cases w with
  | fieldLinkNest => rfl
  | methodLinkNest => rfl
  | _ => cases h
theorem wNs.warm {s U : State} (hW : s.WarmedH U.vm) (h : wNs s) : wNs U := by
  refine ⟨fun w hw => ?_, fun w hw => wOx_moved (List.all_eq_true.mp wOs_all w hw) hW.alike (h.2 w hw)⟩
  have h1 := h.1 w hw
  have h2 := List.all_eq_true.mp wNs_all w hw
  cases w with
  | fieldLinkNest => exact va_Nw.warmF hW h1
  | methodLinkNest => exact va_Nw.warmM hW h1
  | _ => cases h2
theorem wNs.same {u U : State} (e : u.vm = U.vm) (h : wNs u) : wNs U := ⟨fun w hw => va_Nw.same (wNx_tab (List.all_eq_true.mp wNs_all w hw)) e (h.1 w hw), fun w hw => wOx_moved (List.all_eq_true.mp wOs_all w hw) (by rw [e]; exact Vm.Alike.refl U.vm) (h.2 w hw)⟩
def mB (G : GX) (Sh : SH) (I : MI) (L : ML) (U : State) : Prop := mM G Sh I L U.heap ∧ va_K G.1 vwCl (mtys G.2.1) U ∧ G.2.2 ≤ U.heap.size ∧ wNs U
def mW (G : GX) (Sh : SH) (s : State) (I : MI) (L : ML) (H : Heap) (locs : List Loc) : Prop := mM G Sh I L H ∧ va_K G.1 vwCl (mtys G.2.1) s ∧ va_S (mA G) s.heap H locs ∧ G.2.2 ≤ s.heap.size ∧ wNs s
def mu (I : MI) (a k : Nat) (v : Int32) : MI := fun b => if b = a then upd (I a) k v else I b
def mul (L : ML) (a k : Nat) (v : Int64) : ML := fun b => if b = a then vp_updL (L a) k v else L b
theorem mu_at (I : MI) (a k : Nat) (v : Int32) : mu I a k v a = upd (I a) k v := if_pos rfl
theorem mu_off {I : MI} {a k b : Nat} {v : Int32} (h : b ≠ a) : mu I a k v b = I b := if_neg h
theorem mul_at (L : ML) (a k : Nat) (v : Int64) : mul L a k v a = vp_updL (L a) k v := if_pos rfl
theorem mul_off {L : ML} {a k b : Nat} {v : Int64} (h : b ≠ a) : mul L a k v b = L b := if_neg h
-- the shapes
def sGlue : Shp := fun i _ => .inr (2, [.int (i 0), .int (i 1), .int (i 2), .int (i 3), .int (i 4)])
def sLast (r : Nat) : Shp := fun i j => .inr (3, [.ref (r + 1), .ref (r + 2), .ref (r + 3), .ref (r + 4), .ref (r + 5), .ref (r + 6), .ref (r + 7), .int (i 7), .int (i 8), .long (j 9), .long (j 10), .int (i 11), .long (j 12)])
def sNeeds (r : Nat) : Shp := fun _ _ => .inr (4, [.ref (r + 1)])
def sPre (r : Nat) : Shp := fun i _ => .inr (5, [.ref (r + 1), .ref (r + 2), .ref (r + 3), .int (i 3), .int (i 4), .int (i 5), .int (i 6), .int (i 7)])
def sRow (r : Nat) : Shp := fun i _ => .inr (6, [.ref (r + 1), .ref (r + 2), .ref (r + 3), .int (i 3), .int (i 4)])
def sTable (r : Nat) : Shp := fun i _ => .inr (7, [.ref (r + 1), .ref (r + 5), .ref (r + 6), .ref (r + 7), .ref (r + 8), .int (i 5), .int (i 6), .int (i 7), .int (i 8)])
def sX (r : Nat) : Shp := fun i _ => .inr (8, [.ref (r + 1), .int (i 1)])
def sModel (r : Nat) : Shp := fun i _ => .inr (9, [.int (i 0), .int (i 1), .ref (r + 1), .ref (r + 2), .ref (r + 3), .ref (r + 4), .ref (r + 5), .ref (r + 6), .ref (r + 7), .ref (r + 8), .ref (r + 9), .ref (r + 10), .ref (r + 11), .ref (r + 12), .ref (r + 13), .ref (r + 14), .ref (r + 15), .ref (r + 16), .ref (r + 17), .ref (r + 18), .ref (r + 19), .ref (r + 20), .ref (r + 21), .ref (r + 22), .ref (r + 23), .ref (r + 24), .ref (r + 25), .ref (r + 26), .ref (r + 27), .ref (r + 28), .ref (r + 29), .ref (r + 30), .ref (r + 31), .ref (r + 32), .ref (r + 33), .ref (r + 34), .int (i 36), .int (i 37)])
def sI (G : GX) (n : Nat) : Shp := fun i _ => .inl (G.2.1 0, n, .inl i)
def sZ (G : GX) (n : Nat) : Shp := fun i _ => .inl (G.2.1 1, n, .inl i)
def sC (G : GX) (n : Nat) : Shp := fun i _ => .inl (G.2.1 2, n, .inl i)
def sJ (G : GX) (n : Nat) : Shp := fun _ j => .inl (G.2.1 3, n, .inr (.inl j))
def sQ (G : GX) (k n : Nat) (F : Nat → Option Nat) : Shp := fun _ _ => .inl (G.2.1 k, n, .inr (.inr (.inr (.inr F))))
-- what an object is with all that it owns
def isNeeds (G : GX) (Sh : SH) (r : Nat) : Prop := Sh r = some (sNeeds r) ∧ Sh (r + 1) = some (sQ G 7 24 (fun i => if i < 24 then some (r + 2 + i) else none)) ∧ ∀ i, i < 24 → Sh (r + 2 + i) = some (sI G 9)
def isPre (G : GX) (Sh : SH) (r : Nat) : Prop := Sh r = some (sPre r) ∧ Sh (r + 1) = some (sC G 40) ∧ Sh (r + 2) = some (sI G 12) ∧ Sh (r + 3) = some (sI G 12)
def isRow (G : GX) (Sh : SH) (r : Nat) : Prop := Sh r = some (sRow r) ∧ Sh (r + 1) = some (sI G 24) ∧ Sh (r + 2) = some (sI G 24) ∧ Sh (r + 3) = some (sI G 24)
def isLast (G : GX) (Sh : SH) (r : Nat) : Prop := Sh r = some (sLast r) ∧ Sh (r + 1) = some (sI G 24) ∧ Sh (r + 2) = some (sZ G 24) ∧ Sh (r + 3) = some (sJ G 24) ∧ Sh (r + 4) = some (sI G 25) ∧ Sh (r + 5) = some (sI G 25) ∧ Sh (r + 6) = some (sI G 25) ∧ isNeeds G Sh (r + 7)
def isTable (G : GX) (Sh : SH) (r : Nat) : Prop := Sh r = some (sTable r) ∧ isPre G Sh (r + 1) ∧ Sh (r + 5) = some (sQ G 4 13 (fun i => if i < 13 then some (r + 41 + i) else none)) ∧ Sh (r + 6) = some (sQ G 5 20 (fun i => if i < 20 then some (r + 54 + 4 * i) else none)) ∧ Sh (r + 7) = some (sI G 40) ∧ isLast G Sh (r + 8) ∧ (∀ i, i < 13 → Sh (r + 41 + i) = some sGlue) ∧ ∀ i, i < 20 → isRow G Sh (r + 54 + 4 * i)
def isX (G : GX) (Sh : SH) (r : Nat) (F : Nat → Option Nat) : Prop := Sh r = some (sX r) ∧ Sh (r + 1) = some (sQ G 6 6 F)
def isModel (G : GX) (Sh : SH) (r : Nat) : Prop := Sh r = some (sModel r) ∧ Sh (r + 1) = some (sI G 240) ∧ Sh (r + 2) = some (sI G 6) ∧ Sh (r + 3) = some (sZ G 6) ∧ Sh (r + 4) = some (sI G 6) ∧ Sh (r + 5) = some (sI G 6) ∧ Sh (r + 6) = some (sI G 72) ∧ Sh (r + 7) = some (sI G 72) ∧ Sh (r + 8) = some (sI G 78) ∧ Sh (r + 9) = some (sI G 78) ∧ Sh (r + 10) = some (sI G 78) ∧ Sh (r + 11) = some (sI G 78) ∧ Sh (r + 12) = some (sI G 78) ∧ Sh (r + 13) = some (sI G 6) ∧ Sh (r + 14) = some (sZ G 6) ∧ Sh (r + 15) = some (sI G 120) ∧ Sh (r + 16) = some (sI G 120) ∧ Sh (r + 17) = some (sI G 6) ∧ Sh (r + 18) = some (sI G 2880) ∧ Sh (r + 19) = some (sI G 2880) ∧ Sh (r + 20) = some (sI G 2880) ∧ Sh (r + 21) = some (sI G 6) ∧ Sh (r + 22) = some (sI G 240) ∧ Sh (r + 23) = some (sI G 6) ∧ Sh (r + 24) = some (sI G 6) ∧ Sh (r + 25) = some (sI G 6) ∧ Sh (r + 26) = some (sI G 144) ∧ Sh (r + 27) = some (sZ G 144) ∧ Sh (r + 28) = some (sJ G 144) ∧ Sh (r + 29) = some (sJ G 6) ∧ Sh (r + 30) = some (sJ G 6) ∧ Sh (r + 31) = some (sI G 6) ∧ Sh (r + 32) = some (sJ G 6) ∧ Sh (r + 33) = some (sI G 480) ∧ Sh (r + 34) = some (sI G 480)
theorem mB.moved {G : GX} {Sh : SH} {I : MI} {L : ML} {U : State} (h : mB G Sh I L U) (g : JFrame) (mk : MethodId) (a : Array Value) : mB G Sh I L (U.calling g mk a) := ⟨h.1, va_K.moved (u := U) (U := U.calling g mk a) (Vm.Alike.refl U.vm) h.2.1, h.2.2.1, wNs.same (u := U) (U := U.calling g mk a) rfl h.2.2.2⟩
theorem mB.blind {G : GX} {Sh : SH} {I : MI} {L : ML} {av : List Value} : FrameBlind (va_Pc av (mB G Sh I L)) := fun a U g mk h => ⟨h.1, h.2.moved g mk a⟩
theorem mB.start {G : GX} {Sh : SH} {I : MI} {L : ML} {s : State} (h : mB G Sh I L s) : mW G Sh s I L s.heap [] := ⟨h.1, h.2.1, va_S.rf, h.2.2.1, h.2.2.2⟩
theorem mW.ends {G : GX} {Sh : SH} {I : MI} {L : ML} {s t : State} {H : Heap} {locs : List Loc} (h : mW G Sh s I L H locs) (ht : t.heap = H) (hW : s.WarmedH t.vm) : mB G Sh I L t ∧ va_F (mA G) s t := ⟨⟨by rw [ht]; exact h.1, va_K.moved hW.alike h.2.1, by rw [ht]; exact Nat.le_trans h.2.2.2.1 h.2.2.1.1, wNs.warm hW h.2.2.2.2⟩, h.2.2.1.F ht⟩
theorem mW.one {G : GX} {Sh : SH} {I : MI} {L : ML} {s : State} {H : Heap} {locs : List Loc} (h : mW G Sh s I L H locs) {a : Nat} {f : Shp} (hs : Sh a = some f) : va_P G.1 vwCl [(a, f (I a) (L a))] H := by
  intro k q hk
  cases k with
  | zero => cases hk; exact (h.1 a f hs).2
  | succ k => cases hk
theorem mW.recv {G : GX} {Sh : SH} {I : MI} {L : ML} {s : State} {H : Heap} {locs : List Loc} (h : mW G Sh s I L H locs) {a : Nat} {f : Shp} (hs : Sh a = some f) {ci : Nat} {fs : List Value} {q : vw_C} (hf : f (I a) (L a) = .inr (ci, fs)) (hc : vwCl[ci]? = some q) : ∃ cell : Cell, H[a]? = some cell ∧ cell.vm.isStatics = false ∧ s.vm.findClass q.1 = some cell.cls :=
  va_recv h.2.1 (h.one hs) hc (q0 := 0) (by rw [hf]; rfl)
theorem vp_lt {i : Int32} {n : Nat} (h : vp_in i n) : i.toNatClampNeg < n := Nat.not_le.mp fun q => h (Or.inr q)
theorem nar_z {v : Int32} (h : v = 0 ∨ v = 1) : narrow .boolean (.int v) = .int v := by
  rcases h with rfl | rfl <;> rfl
theorem fits_z {v : Int32} (h : v = 0 ∨ v = 1) : fits .boolean (.int v) = true := by
  rcases h with rfl | rfl <;> rfl
theorem mW.nw {G : GX} {Sh : SH} {I : MI} {L : ML} {s : State} {H : Heap} {locs : List Loc} (h : mW G Sh s I L H locs) {w : Cond} (hw : w ∈ wsN) : va_Nw w s := h.2.2.2.2.1 w hw
theorem mW.nest {G : GX} {Sh : SH} {I : MI} {L : ML} {s : State} {H : Heap} {locs : List Loc} {args : Array Value} (h : mW G Sh s I L H locs) {w : Cond} (hw : w ∈ wsN) (ht : w.onTables = true) : w.before args s = true := va_Nw.use ht (h.2.2.2.2.1 w hw)
/-- one cell is written -/
theorem mW.wr {G : GX} {Sh : SH} {I I1 : MI} {L L1 : ML} {s : State} {H H1 : Heap} {locs : List Loc} (h : mW G Sh s I L H locs) {a k : Nat} {f : Shp} (hs : Sh a = some f) (he : va_at G.1 vwCl (a, f (I1 a) (L1 a)) H1) (hI : ∀ b, b ≠ a → I1 b = I b) (hL : ∀ b, b ≠ a → L1 b = L b) (z : H1.size = H.size) (oq : ∀ q : Nat, q ≠ a → H1[q]? = H[q]?) : mW G Sh s I1 L1 H1 (locs ++ [⟨a, k⟩]) := by
  refine ⟨fun b g hb => ?_, h.2.1, h.2.2.1.put z oq (h.1 a f hs).1, h.2.2.2⟩
  refine ⟨(h.1 b g hb).1, ?_⟩
  by_cases e : b = a
  · subst e
    cases hs.symm.trans hb
    exact he
  · have := (h.1 b g hb).2
    rw [hI b e, hL b e]
    exact this.kept (oq b e)
def rmA (f l : Nat) : Room := { frames := f, cells := 0, slots := 0, locals := l }
def wM (y : MethodName) (c : ByteArray) (n : Nat) (r : Option FieldType) : List Cond := Cond.code y c n r :: wsA
section LK
variable {own C : String} {idx n : Nat} {y : MethodName} {c : ByteArray} {r : Option FieldType}
theorem lk_C (h5 : Cond.code y c n r ∈ wsA) : GoodIn wsA (wM y c n r) := wsA_G fun w h => (List.mem_cons.mp h).elim (fun e => by rw [e]; exact h5) id
theorem lk_V (h1 : Cond.methodLink own idx y ∈ wsA) (h2 : Cond.instanceMethod y ∈ wsA) (h3 : Cond.selects C y y ∈ wsA) (h4 : Cond.initialized C ∈ wsA) (h5 : Cond.code y c n r ∈ wsA) : GoodIn wsA (wsV own idx C y (wM y c n r)) := by
  refine wsA_G fun w h => ?_
  rcases List.mem_append.mp h with h | h
  · simp only [List.mem_cons, List.mem_nil_iff, or_false] at h
    rcases h with rfl | rfl | rfl | rfl <;> assumption
  · exact (lk_C h5 w h).1
theorem lk_S (h1 : Cond.methodLink own idx y ∈ wsA) (h2 : Cond.static y ∈ wsA) (h4 : Cond.initialized y.cls ∈ wsA) (h5 : Cond.code y c n r ∈ wsA) : GoodIn wsA (va_wsS own idx y (wM y c n r)) := by
  refine wsA_G fun w h => ?_
  rcases List.mem_append.mp h with h | h
  · simp only [List.mem_cons, List.mem_nil_iff, or_false] at h
    rcases h with rfl | rfl | rfl <;> assumption
  · exact (lk_C h5 w h).1
end LK
/-- what a walk stands on -/
def Cx (p : Program) (s : State) (m : MethodId) (args : Array Value) (meth : Method) (c : Code) (cc : ByteArray) (ret : Option FieldType) (nL : Nat) (own : String) : Prop := p.tables.exec = Jvm.exec ∧ c.code = cc ∧ meth.sig.returnType = ret ∧ c.maxLocals = nL ∧ s.vm.findClass own = some m.cls ∧ (∀ w ∈ wsA, w.before args s = true) ∧ meth.locks = false
theorem ofA {l : Launch} {y : MethodName} {cc : ByteArray} {maxL : Nat} {ret : Option FieldType} {rm : Room} {own : String} {G : GX} {Sh : SH} {av : List Value} {I : MI} {L : ML} {Qc : Array Value → State → Outcome → State → Prop} (hy : plainName y.cls = true) (ho : y.cls = own) (hlen : (lg_sl av).length ≤ maxL)
    (body : ∀ p e s m args below meth c ls, Cx p s m args meth c cc ret maxL own → mW G Sh s I L s.heap [] → lv_has ls maxL (lv_args 0 av) → W p l e rm s m args below meth c s.heap [] 0 0 (MQ below Qc args s 0 0 (mA G)) (F0 m 0 ls [])) : Met l y (wM y cc maxL ret) rm (va_Pc av (mB G Sh I L)) Qc 0 0 (mA G) := by
  refine Met.ofW (cc := cc) (maxL := maxL) (ret := ret) hy rfl ?_
  intro p e s m args below meth c s₁ B hml hv
  obtain ⟨rfl, hv⟩ := hv
  have hts0 := atoms_spec (ws := wM y cc maxL ret) B.pre
  have hown : s.vm.findClass own = some m.cls := by rw [← ho]; exact findClass_of_methodNamed B.named
  have hl := lv_entry av (n := maxL) hlen
  rw [lg_entry_eq]
  generalize (lg_sl av ++ List.replicate (maxL - (lg_sl av).length) Slot.unset).toArray = ls at hl ⊢
  exact body p e s m _ below meth c ls ⟨B.exec, B.bytes, B.returns, hml, hown, fun w h => hts0 w (List.mem_cons_of_mem _ h), B.notSynchronized⟩ hv.start hl
section MR
variable {p : Program} {l : Launch} {e : Env} {R : Room} {s : State} {m : MethodId} {args : Array Value} {below : List Frame} {meth : Method} {c : Code} {H : Heap} {locs : List Loc} {cells slots : Nat} {Q : State → Prop}
variable {cc : ByteArray} {pc : Nat} {ls : Array Slot} {rest : List Value} {a : Nat} {Ts : List Cond} {G : GX} {Sh : SH} {I : MI} {L : ML} {f : Shp}
theorem r_get (hx : p.tables.exec = Jvm.exec) (hb : c.code = cc) (hts : ∀ w ∈ Ts, w.before args s = true) {own ref C : String} {T : u_T} {N ci index : Nat} (hown : s.vm.findClass own = some m.cls) (hin : ∀ w ∈ u_ws C T N, w ∈ Ts) (hw : mW G Sh s I L H locs) (hs : Sh a = some f) {fs : List Value} (hf : f (I a) (L a) = .inr (ci, fs)) (hc : vwCl[ci]? = some (C, T, N)) (k : Nat) (hk : k < N) (hlink : (Cond.fieldLink own index ref (T k).2.1 (T k).2.2.1).before args s = true) (hsame : (T k).1 = ref) {v : Value} (hv : fs[k]? = some v) (hdg : decode cc pc = .ok (.getfield index, 3))
    (kk : W p l e R s m args below meth c H locs cells slots Q (F0 m (pc + 3) ls (v :: rest))) : W p l e R s m args below meth c H locs cells slots Q (F0 m pc ls (.ref a :: rest)) :=
  va_get hx hb hts hin hown hw.2.1 (hw.one hs) 0 (by rw [hf]; rfl) hc k hk hlink (fun x h => by rw [← hsame]; exact h) hv hdg kk
theorem r_getN (hx : p.tables.exec = Jvm.exec) (hb : c.code = cc) (hts : ∀ w ∈ Ts, w.before args s = true) {own ref C host : String} {T : u_T} {N ci index : Nat} (hown : s.vm.findClass own = some m.cls) (hin : ∀ w ∈ u_ws C T N, w ∈ Ts) (hw : mW G Sh s I L H locs) (hs : Sh a = some f) {fs : List Value} (hf : f (I a) (L a) = .inr (ci, fs)) (hc : vwCl[ci]? = some (C, T, N)) (k : Nat) (hk : k < N) (hlink : (Cond.fieldLinkNest own index ref (T k).2.1 (T k).2.2.1 host).before args s = true) (hsame : (T k).1 = ref) {v : Value} (hv : fs[k]? = some v) (hdg : decode cc pc = .ok (.getfield index, 3))
    (kk : W p l e R s m args below meth c H locs cells slots Q (F0 m (pc + 3) ls (v :: rest))) : W p l e R s m args below meth c H locs cells slots Q (F0 m pc ls (.ref a :: rest)) :=
  va_getN hx hb hts hin hown hw.2.1 (hw.one hs) 0 (by rw [hf]; rfl) hc k hk hlink (fun x h => by rw [← hsame]; exact h) hv hdg kk
theorem r_put (hx : p.tables.exec = Jvm.exec) (hb : c.code = cc) (hts : ∀ w ∈ Ts, w.before args s = true) {own ref C : String} {T : u_T} {N ci index : Nat} (hown : s.vm.findClass own = some m.cls) (hin : ∀ w ∈ u_ws C T N, w ∈ Ts) (ty0 : Nat → FieldType) (hty : ∀ k, k < N → parseFieldDescriptor (T k).2.2.1 = some (ty0 k)) (hnm : ∀ a, a < N → ∀ b, b < N → a ≠ b → (T a).2.1 ≠ (T b).2.1)
    (hw : mW G Sh s I L H locs) (hs : Sh a = some f) {fs : List Value} (hf : f (I a) (L a) = .inr (ci, fs)) (hc : vwCl[ci]? = some (C, T, N)) (k : Nat) (hk : k < N) (hlink : (Cond.fieldLink own index ref (T k).2.1 (T k).2.2.1).before args s = true) (hsame : (T k).1 = ref) (hfin : (T k).2.2.2 = false) {v : Value} (hn : narrow (ty0 k) v = v) (hfit : fits (ty0 k) v = true) (hl : k < fs.length) (I1 : MI) (L1 : ML) (hset : f (I1 a) (L1 a) = .inr (ci, fs.set k v)) (hI : ∀ b, b ≠ a → I1 b = I b) (hL : ∀ b, b ≠ a → L1 b = L b) (hdg : decode cc pc = .ok (.putfield index, 3))
    (kk : ∀ (H1 : Heap) (locs1 : List Loc), mW G Sh s I1 L1 H1 locs1 → W p l e R s m args below meth c H1 locs1 cells slots Q (F0 m (pc + 3) ls rest)) : W p l e R s m args below meth c H locs cells slots Q (F0 m pc ls (v :: .ref a :: rest)) := by
  have hK := hw.2.1
  have hap := va_apart (own := own) hts hin ty0 hty hnm hK hc
  have he := (hw.1 a f hs).2
  rw [hf] at he
  obtain ⟨r, h1, cell, q1, q2, q3, q4⟩ := he
  have hr : r = (C, T, N) := Option.some.inj (h1.symm.trans hc)
  subst hr
  obtain ⟨hS, hfc, kC, hkC, hkind⟩ := hK.1 ci _ hc
  obtain ⟨cf, kf, fi, fd, hi, hsl⟩ := hS k hk
  have hlay := hts _ (hin _ (u_in_lay hk))
  unfold u_lay at hlay
  rw [if_neg (by rw [hfin]; decide)] at hlay
  have hst := (u_facts hfc hkC (u_lays hts hin hk) hi).1
  have h6 := u_store hfc hkC hkind hlay hi (hty k hk) hn hfit
  have hi2 : s.fieldFound? ref (T k).2.1 (T k).2.2.1 = some (cf, kf, fi, fd) := by rw [← hsame]; exact hi
  refine W.putK hx hb (f := fd) ⟨hown, hlink, ⟨_, _, _, hi2⟩, hst⟩ (by rw [q2]; exact h6) q1 q3 (by rw [hsl]; exact k2_hasslot (q4 k hk)) rfl rfl hdg fun H' e1 e2 e3 => ?_
  rw [hsl] at e1 ⊢
  refine kk H' _ (hw.wr hs ?_ hI hL e2 e3)
  rw [hset]
  exact ⟨_, hc, t_OB.to (V := updV (vp_V fs) k v) ⟨_, e1, q2, q3, t_set q4 hap hk v⟩ (fun j _ => vp_updV_set hl v j)⟩
theorem r_puti (hx : p.tables.exec = Jvm.exec) (hb : c.code = cc) (hts : ∀ w ∈ Ts, w.before args s = true) {own ref C : String} {T : u_T} {N ci index : Nat} (hown : s.vm.findClass own = some m.cls) (hin : ∀ w ∈ u_ws C T N, w ∈ Ts) (ty0 : Nat → FieldType) (hty : ∀ k, k < N → parseFieldDescriptor (T k).2.2.1 = some (ty0 k)) (hnm : ∀ a, a < N → ∀ b, b < N → a ≠ b → (T a).2.1 ≠ (T b).2.1)
    (hw : mW G Sh s I L H locs) (hs : Sh a = some f) {fs : List Value} (hf : f (I a) (L a) = .inr (ci, fs)) (hc : vwCl[ci]? = some (C, T, N)) (k : Nat) (hk : k < N) (hlink : (Cond.fieldLink own index ref (T k).2.1 (T k).2.2.1).before args s = true) (hsame : (T k).1 = ref) (hfin : (T k).2.2.2 = false) {v : Int32} (hn : narrow (ty0 k) (.int v) = .int v) (hfit : fits (ty0 k) (.int v) = true) (hl : k < fs.length) (hset : f (upd (I a) k v) (L a) = .inr (ci, fs.set k (.int v))) (hdg : decode cc pc = .ok (.putfield index, 3))
    (kk : ∀ (I1 : MI) (H1 : Heap) (locs1 : List Loc), I1 = mu I a k v → mW G Sh s I1 L H1 locs1 → W p l e R s m args below meth c H1 locs1 cells slots Q (F0 m (pc + 3) ls rest)) : W p l e R s m args below meth c H locs cells slots Q (F0 m pc ls (.int v :: .ref a :: rest)) :=
  r_put hx hb hts hown hin ty0 hty hnm hw hs hf hc k hk hlink hsame hfin hn hfit hl (mu I a k v) L (by rw [mu_at]; exact hset) (fun _ h => mu_off h) (fun _ _ => rfl) hdg (fun H1 locs1 h => kk _ H1 locs1 rfl h)
theorem r_putj (hx : p.tables.exec = Jvm.exec) (hb : c.code = cc) (hts : ∀ w ∈ Ts, w.before args s = true) {own ref C : String} {T : u_T} {N ci index : Nat} (hown : s.vm.findClass own = some m.cls) (hin : ∀ w ∈ u_ws C T N, w ∈ Ts) (ty0 : Nat → FieldType) (hty : ∀ k, k < N → parseFieldDescriptor (T k).2.2.1 = some (ty0 k)) (hnm : ∀ a, a < N → ∀ b, b < N → a ≠ b → (T a).2.1 ≠ (T b).2.1)
    (hw : mW G Sh s I L H locs) (hs : Sh a = some f) {fs : List Value} (hf : f (I a) (L a) = .inr (ci, fs)) (hc : vwCl[ci]? = some (C, T, N)) (k : Nat) (hk : k < N) (hlink : (Cond.fieldLink own index ref (T k).2.1 (T k).2.2.1).before args s = true) (hsame : (T k).1 = ref) (hfin : (T k).2.2.2 = false) {v : Int64} (hn : narrow (ty0 k) (.long v) = .long v) (hfit : fits (ty0 k) (.long v) = true) (hl : k < fs.length) (hset : f (I a) (vp_updL (L a) k v) = .inr (ci, fs.set k (.long v))) (hdg : decode cc pc = .ok (.putfield index, 3))
    (kk : ∀ (L1 : ML) (H1 : Heap) (locs1 : List Loc), L1 = mul L a k v → mW G Sh s I L1 H1 locs1 → W p l e R s m args below meth c H1 locs1 cells slots Q (F0 m (pc + 3) ls rest)) : W p l e R s m args below meth c H locs cells slots Q (F0 m pc ls (.long v :: .ref a :: rest)) :=
  r_put hx hb hts hown hin ty0 hty hnm hw hs hf hc k hk hlink hsame hfin hn hfit hl I (mul L a k v) (by rw [mul_at]; exact hset) (fun _ _ => rfl) (fun _ h => mul_off h) hdg (fun H1 locs1 h => kk _ H1 locs1 rfl h)
theorem r_iald (hx : p.tables.exec = Jvm.exec) (hb : c.code = cc) (hw : mW G Sh s I L H locs) {n : Nat} (hs : Sh a = some (sI G n)) {i : Int32} (hin : vp_in i n) (hdg : decode cc pc = .ok (.iaload, 1))
    (kk : W p l e R s m args below meth c H locs cells slots Q (F0 m (pc + 1) ls (.int (I a i.toNatClampNeg) :: rest))) : W p l e R s m args below meth c H locs cells slots Q (F0 m pc ls (.int i :: .ref a :: rest)) :=
  va_iald hx hb hw.2.1 (hw.one hs) 0 0 rfl rfl hin hdg kk
theorem r_zald (hx : p.tables.exec = Jvm.exec) (hb : c.code = cc) (hw : mW G Sh s I L H locs) {n : Nat} (hs : Sh a = some (sZ G n)) {i : Int32} (hin : vp_in i n) (hdg : decode cc pc = .ok (.baload, 1))
    (kk : W p l e R s m args below meth c H locs cells slots Q (F0 m (pc + 1) ls (.int (I a i.toNatClampNeg) :: rest))) : W p l e R s m args below meth c H locs cells slots Q (F0 m pc ls (.int i :: .ref a :: rest)) :=
  va_zald hx hb hw.2.1 (hw.one hs) 0 1 rfl rfl hin hdg kk
theorem r_cald (hx : p.tables.exec = Jvm.exec) (hb : c.code = cc) (hw : mW G Sh s I L H locs) {n : Nat} (hs : Sh a = some (sC G n)) {i : Int32} (hin : vp_in i n) (hdg : decode cc pc = .ok (.caload, 1))
    (kk : W p l e R s m args below meth c H locs cells slots Q (F0 m (pc + 1) ls (.int (I a i.toNatClampNeg) :: rest))) : W p l e R s m args below meth c H locs cells slots Q (F0 m pc ls (.int i :: .ref a :: rest)) :=
  va_cald hx hb hw.2.1 (hw.one hs) 0 2 rfl rfl hin hdg kk
theorem r_lald (hx : p.tables.exec = Jvm.exec) (hb : c.code = cc) (hw : mW G Sh s I L H locs) {n : Nat} (hs : Sh a = some (sJ G n)) {i : Int32} (hin : vp_in i n) (hdg : decode cc pc = .ok (.laload, 1))
    (kk : W p l e R s m args below meth c H locs cells slots Q (F0 m (pc + 1) ls (.long (L a i.toNatClampNeg) :: rest))) : W p l e R s m args below meth c H locs cells slots Q (F0 m pc ls (.int i :: .ref a :: rest)) :=
  va_lald hx hb hw.2.1 (hw.one hs) 0 3 rfl rfl hin hdg kk
theorem r_alenI (hx : p.tables.exec = Jvm.exec) (hb : c.code = cc) (hw : mW G Sh s I L H locs) {n : Nat} {v : Int32} (hs : Sh a = some (sI G n)) (hv : Int32.ofNat n = v) (hdg : decode cc pc = .ok (.arraylength, 1))
    (kk : W p l e R s m args below meth c H locs cells slots Q (F0 m (pc + 1) ls (.int v :: rest))) : W p l e R s m args below meth c H locs cells slots Q (F0 m pc ls (.ref a :: rest)) :=
  va_alen hx hb hw.2.1 (hw.one hs) 0 0 rfl (ty := .int) rfl hv hdg kk
theorem r_alenQ (hx : p.tables.exec = Jvm.exec) (hb : c.code = cc) (hw : mW G Sh s I L H locs) {k n : Nat} {F : Nat → Option Nat} {v : Int32} {ty : FieldType} (hs : Sh a = some (sQ G k n F)) (ht : (mtys G.2.1)[k]? = some (G.2.1 k, ty)) (hv : Int32.ofNat n = v) (hdg : decode cc pc = .ok (.arraylength, 1))
    (kk : W p l e R s m args below meth c H locs cells slots Q (F0 m (pc + 1) ls (.int v :: rest))) : W p l e R s m args below meth c H locs cells slots Q (F0 m pc ls (.ref a :: rest)) :=
  va_alen hx hb hw.2.1 (hw.one hs) 0 k rfl ht hv hdg kk
theorem r_aald (hx : p.tables.exec = Jvm.exec) (hb : c.code = cc) (hw : mW G Sh s I L H locs) {k n : Nat} {F : Nat → Option Nat} {C : String} (hs : Sh a = some (sQ G k n F)) (ht : (mtys G.2.1)[k]? = some (G.2.1 k, .object C)) {i : Int32} (hin : vp_in i n) (hdg : decode cc pc = .ok (.aaload, 1))
    (kk : W p l e R s m args below meth c H locs cells slots Q (F0 m (pc + 1) ls (va_rf (F i.toNatClampNeg) :: rest))) : W p l e R s m args below meth c H locs cells slots Q (F0 m pc ls (.int i :: .ref a :: rest)) :=
  va_aldq hx hb hw.2.1 (hw.one hs) 0 k rfl ht hin hdg kk
/-- out of a row of rows of ints -/
theorem r_aaldR (hx : p.tables.exec = Jvm.exec) (hb : c.code = cc) (hw : mW G Sh s I L H locs) {n : Nat} {F : Nat → Option Nat} (hs : Sh a = some (sQ G 7 n F)) {i : Int32} (hin : vp_in i n) (hdg : decode cc pc = .ok (.aaload, 1))
    (kk : W p l e R s m args below meth c H locs cells slots Q (F0 m (pc + 1) ls (va_rf (F i.toNatClampNeg) :: rest))) : W p l e R s m args below meth c H locs cells slots Q (F0 m pc ls (.int i :: .ref a :: rest)) := by
  have hlt : i.toNatClampNeg < n := Nat.not_le.mp fun q => hin (Or.inr q)
  exact W.aald (v := va_rf (F i.toNatClampNeg)) (ty := .array .int) hx hb ((hw.one hs) 0 _ rfl) ((hw.2.1.2 7 (G.2.1 7, .array .int) rfl).1 n (fun j => va_rf (F j))) rfl (fun q => by cases q) (by show ¬ (i < 0 ∨ (arrV _ _ _).slots.size ≤ _); rw [arrV_size]; exact hin) (by show (arrV _ _ _).slots[_]? = _; rw [arrV_read _ _ hlt]) rfl rfl hdg kk
theorem r_aaldF (hx : p.tables.exec = Jvm.exec) (hb : c.code = cc) (hw : mW G Sh s I L H locs) {k n b : Nat} {F : Nat → Option Nat} {C : String} (hs : Sh a = some (sQ G k n F)) (ht : (mtys G.2.1)[k]? = some (G.2.1 k, .object C)) {i : Int32} (hin : vp_in i n) (hF : F i.toNatClampNeg = some b) (hdg : decode cc pc = .ok (.aaload, 1))
    (kk : W p l e R s m args below meth c H locs cells slots Q (F0 m (pc + 1) ls (.ref b :: rest))) : W p l e R s m args below meth c H locs cells slots Q (F0 m pc ls (.int i :: .ref a :: rest)) :=
  r_aald hx hb hw hs ht hin hdg (by rw [hF]; exact kk)
theorem r_aaldRF (hx : p.tables.exec = Jvm.exec) (hb : c.code = cc) (hw : mW G Sh s I L H locs) {n b : Nat} {F : Nat → Option Nat} (hs : Sh a = some (sQ G 7 n F)) {i : Int32} (hin : vp_in i n) (hF : F i.toNatClampNeg = some b) (hdg : decode cc pc = .ok (.aaload, 1))
    (kk : W p l e R s m args below meth c H locs cells slots Q (F0 m (pc + 1) ls (.ref b :: rest))) : W p l e R s m args below meth c H locs cells slots Q (F0 m pc ls (.int i :: .ref a :: rest)) :=
  r_aaldR hx hb hw hs hin hdg (by rw [hF]; exact kk)
theorem r_iast (hx : p.tables.exec = Jvm.exec) (hb : c.code = cc) (hw : mW G Sh s I L H locs) {n : Nat} (hs : Sh a = some (sI G n)) {i x : Int32} (hin : vp_in i n) (hdg : decode cc pc = .ok (.iastore, 1))
    (kk : ∀ (I1 : MI) (H1 : Heap) (locs1 : List Loc), I1 = mu I a i.toNatClampNeg x → mW G Sh s I1 L H1 locs1 → W p l e R s m args below meth c H1 locs1 cells slots Q (F0 m (pc + 1) ls rest)) : W p l e R s m args below meth c H locs cells slots Q (F0 m pc ls (.int x :: .int i :: .ref a :: rest)) := by
  refine W.iast hx hb ((hw.one hs) 0 _ rfl) ((hw.2.1.2 0 (G.2.1 0, .int) rfl).1 n (fun j => .int (I a j))) (fun q => by cases q) (by show ¬ (i < 0 ∨ (arrV _ _ _).slots.size ≤ _); rw [arrV_size]; exact hin) rfl rfl hdg fun H1 e z oq => ?_
  refine kk _ H1 _ rfl (hw.wr hs ?_ (fun _ h => mu_off h) (fun _ _ => rfl) z oq)
  show H1[a]? = some (vp_cell _ _)
  rw [e, mu_at]
  rw [vp_cell_i, vp_cell_i, arrV_store]
  congr 2
  funext q
  by_cases hq : q = i.toNatClampNeg
  · subst hq
    simp [updV, upd]
  · simp [updV, upd, hq]
theorem r_zast (hx : p.tables.exec = Jvm.exec) (hb : c.code = cc) (hw : mW G Sh s I L H locs) {n : Nat} (hs : Sh a = some (sZ G n)) {i x y : Int32} (hin : vp_in i n) (hy : x &&& 1 = y) (hdg : decode cc pc = .ok (.bastore, 1))
    (kk : ∀ (I1 : MI) (H1 : Heap) (locs1 : List Loc), I1 = mu I a i.toNatClampNeg y → mW G Sh s I1 L H1 locs1 → W p l e R s m args below meth c H1 locs1 cells slots Q (F0 m (pc + 1) ls rest)) : W p l e R s m args below meth c H locs cells slots Q (F0 m pc ls (.int x :: .int i :: .ref a :: rest)) := by
  refine W.zast hx hb ((hw.one hs) 0 _ rfl) ((hw.2.1.2 1 (G.2.1 1, .boolean) rfl).1 n (fun j => .int (I a j))) (fun q => by cases q) (by show ¬ (i < 0 ∨ (arrV _ _ _).slots.size ≤ _); rw [arrV_size]; exact hin) rfl rfl hdg fun H1 e z oq => ?_
  refine kk _ H1 _ rfl (hw.wr hs ?_ (fun _ h => mu_off h) (fun _ _ => rfl) z oq)
  show H1[a]? = some (vp_cell _ _)
  rw [e, mu_at]
  rw [vp_cell_i, vp_cell_i, arrV_store]
  congr 2
  funext q
  by_cases hq : q = i.toNatClampNeg
  · subst hq
    simp [updV, upd]
    exact congrArg Value.int hy
  · simp [updV, upd, hq]
theorem r_cast (hx : p.tables.exec = Jvm.exec) (hb : c.code = cc) (hw : mW G Sh s I L H locs) {n : Nat} (hs : Sh a = some (sC G n)) {i x y : Int32} (hin : vp_in i n) (hy : x.toUInt32.toUInt16.toUInt32.toInt32 = y) (hdg : decode cc pc = .ok (.castore, 1))
    (kk : ∀ (I1 : MI) (H1 : Heap) (locs1 : List Loc), I1 = mu I a i.toNatClampNeg y → mW G Sh s I1 L H1 locs1 → W p l e R s m args below meth c H1 locs1 cells slots Q (F0 m (pc + 1) ls rest)) : W p l e R s m args below meth c H locs cells slots Q (F0 m pc ls (.int x :: .int i :: .ref a :: rest)) := by
  refine W.cast hx hb ((hw.one hs) 0 _ rfl) ((hw.2.1.2 2 (G.2.1 2, .char) rfl).1 n (fun j => .int (I a j))) (fun q => by cases q) (by show ¬ (i < 0 ∨ (arrV _ _ _).slots.size ≤ _); rw [arrV_size]; exact hin) rfl rfl hdg fun H1 e z oq => ?_
  refine kk _ H1 _ rfl (hw.wr hs ?_ (fun _ h => mu_off h) (fun _ _ => rfl) z oq)
  show H1[a]? = some (vp_cell _ _)
  rw [e, mu_at]
  rw [vp_cell_i, vp_cell_i, arrV_store]
  congr 2
  funext q
  by_cases hq : q = i.toNatClampNeg
  · subst hq
    simp only [updV, upd, if_true]
    exact congrArg Value.int hy
  · simp [updV, upd, hq]
theorem r_last (hx : p.tables.exec = Jvm.exec) (hb : c.code = cc) (hw : mW G Sh s I L H locs) {n : Nat} (hs : Sh a = some (sJ G n)) {i : Int32} {x : Int64} (hin : vp_in i n) (hdg : decode cc pc = .ok (.lastore, 1))
    (kk : ∀ (L1 : ML) (H1 : Heap) (locs1 : List Loc), L1 = mul L a i.toNatClampNeg x → mW G Sh s I L1 H1 locs1 → W p l e R s m args below meth c H1 locs1 cells slots Q (F0 m (pc + 1) ls rest)) : W p l e R s m args below meth c H locs cells slots Q (F0 m pc ls (.long x :: .int i :: .ref a :: rest)) := by
  refine W.last hx hb ((hw.one hs) 0 _ rfl) ((hw.2.1.2 3 (G.2.1 3, .long) rfl).1 n (fun j => .long (L a j))) (fun q => by cases q) (by show ¬ (i < 0 ∨ (arrV _ _ _).slots.size ≤ _); rw [arrV_size]; exact hin) rfl rfl hdg fun H1 e z oq => ?_
  refine kk _ H1 _ rfl (hw.wr hs ?_ (fun _ _ => rfl) (fun _ h => mul_off h) z oq)
  show H1[a]? = some (vp_cell _ _)
  rw [e, mul_at]
  rw [vp_cell_l, vp_cell_l, arrV_store]
  congr 2
  funext q
  by_cases hq : q = i.toNatClampNeg
  · subst hq
    simp [updV, vp_updL]
  · simp [updV, vp_updL, hq]
end MR
-- contracts of methods that make nothing: an int (or truth value), a long, nothing, an address or null, an address
abbrev CtI (l : Launch) (y : MethodName) (ws : List Cond) (rm : Room) (G : GX) (Sh : SH) (av : List Value) (I : MI) (L : ML) (K : Int32 → MI → ML → Prop) : Prop := Met l y ws rm (va_Pc av (mB G Sh I L)) (va_Qi (fun (r : Int32) (u : MI × ML) => K r u.1 u.2) (fun (u : MI × ML) t => mB G Sh u.1 u.2 t) (mA G)) 0 0 (mA G)
abbrev CtL (l : Launch) (y : MethodName) (ws : List Cond) (rm : Room) (G : GX) (Sh : SH) (av : List Value) (I : MI) (L : ML) (K : Int64 → MI → ML → Prop) : Prop := Met l y ws rm (va_Pc av (mB G Sh I L)) (va_Ql (fun (r : Int64) (u : MI × ML) => K r u.1 u.2) (fun (u : MI × ML) t => mB G Sh u.1 u.2 t) (mA G)) 0 0 (mA G)
abbrev CtV (l : Launch) (y : MethodName) (ws : List Cond) (rm : Room) (G : GX) (Sh : SH) (av : List Value) (I : MI) (L : ML) (K : MI → ML → Prop) : Prop := Met l y ws rm (va_Pc av (mB G Sh I L)) (va_Qv (fun (u : MI × ML) => K u.1 u.2) (fun (u : MI × ML) t => mB G Sh u.1 u.2 t) (mA G)) 0 0 (mA G)
abbrev CtQ (l : Launch) (y : MethodName) (ws : List Cond) (rm : Room) (G : GX) (Sh : SH) (av : List Value) (I : MI) (L : ML) (K : Option Nat → MI → ML → Prop) : Prop := Met l y ws rm (va_Pc av (mB G Sh I L)) (va_Qq (fun (r : Option Nat) (u : MI × ML) => K r u.1 u.2) (fun (u : MI × ML) t => mB G Sh u.1 u.2 t) (mA G)) 0 0 (mA G)
section MC
variable {p : Program} {l : Launch} {e : Env} {R : Room} {s : State} {m : MethodId} {args : Array Value} {below : List Frame} {meth : Method} {c : Code} {H : Heap} {locs : List Loc} {cells slots : Nat} {Q : State → Prop}
variable {cc bytes : ByteArray} {pc maxL nL n index : Nat} {ret : Option FieldType} {ls : Array Slot} {rest As : List Value} {a : Nat} {Ts ws : List Cond} {rm : Room} {y : MethodName} {own C : String} {G : GX} {Sh : SH} {I : MI} {L : ML} {f : Shp}
theorem mW.preV (hw : mW G Sh s I L H locs) (hr : ∃ cell : Cell, H[a]? = some cell ∧ cell.vm.isStatics = false ∧ s.vm.findClass C = some cell.cls) : PreV s H C a (va_Pc (.ref a :: As) (mB G Sh I L)) As :=
  ⟨mB.blind, hr, fun U hU hW => ⟨rfl, by rw [hU]; exact hw.1, va_K.moved hW.alike hw.2.1, by rw [hU]; exact Nat.le_trans hw.2.2.2.1 hw.2.2.1.1, wNs.warm hW hw.2.2.2.2⟩⟩
theorem mW.preS (hw : mW G Sh s I L H locs) : PreS s H (va_Pc As (mB G Sh I L)) As :=
  ⟨mB.blind, fun U hU hW => ⟨rfl, by rw [hU]; exact hw.1, va_K.moved hW.alike hw.2.1, by rw [hU]; exact Nat.le_trans hw.2.2.2.1 hw.2.2.1.1, wNs.warm hW hw.2.2.2.2⟩⟩
theorem r_cvI {K : Int32 → MI → ML → Prop} (S : CallFix p m c cc nL s args Ts own) (hM : CtI l y ws rm G Sh (.ref a :: As) I L K) (cw : CallW R s args own C index y bytes maxL ret ws rm 0 0 n) (hw : mW G Sh s I L H locs) (hr : ∃ cell : Cell, H[a]? = some cell ∧ cell.vm.isStatics = false ∧ s.vm.findClass C = some cell.cls) (hn : As.length = n) {st : List Value} (hst : st = As.reverse ++ .ref a :: rest) (hsz : ls.size = nL) (hW : (rest.map fun v => v.category).sum ≤ 8) (hf : cells ≤ R.cells ∧ slots ≤ R.slots) (hdg : decode cc pc = .ok (.invokevirtual index, 3))
    (kk : ∀ (r : Int32) (I1 : MI) (L1 : ML) (H1 : Heap) (locs1 : List Loc), K r I1 L1 → mW G Sh s I1 L1 H1 locs1 → W p l e R s m args below meth c H1 locs1 cells slots Q (F0 m (pc + 3) ls (.int r :: rest))) : W p l e R s m args below meth c H locs cells slots Q (F0 m pc ls st) :=
  va_calli (va_runV S hM cw (hw.preV hr) rfl hn hsz hst (lv_room hW) hdg hf) hw.2.2.1 (fun _ _ h => h) (fun _ h => h) (fun r u t H1 locs1 ht hvm hk hB _ _ hS => kk r u.1 u.2 H1 locs1 hk ⟨by rw [← ht]; exact hB.1, hw.2.1, hS, hw.2.2.2⟩)
theorem r_cvL {K : Int64 → MI → ML → Prop} (S : CallFix p m c cc nL s args Ts own) (hM : CtL l y ws rm G Sh (.ref a :: As) I L K) (cw : CallW R s args own C index y bytes maxL ret ws rm 0 0 n) (hw : mW G Sh s I L H locs) (hr : ∃ cell : Cell, H[a]? = some cell ∧ cell.vm.isStatics = false ∧ s.vm.findClass C = some cell.cls) (hn : As.length = n) {st : List Value} (hst : st = As.reverse ++ .ref a :: rest) (hsz : ls.size = nL) (hW : (rest.map fun v => v.category).sum ≤ 8) (hf : cells ≤ R.cells ∧ slots ≤ R.slots) (hdg : decode cc pc = .ok (.invokevirtual index, 3))
    (kk : ∀ (r : Int64) (I1 : MI) (L1 : ML) (H1 : Heap) (locs1 : List Loc), K r I1 L1 → mW G Sh s I1 L1 H1 locs1 → W p l e R s m args below meth c H1 locs1 cells slots Q (F0 m (pc + 3) ls (.long r :: rest))) : W p l e R s m args below meth c H locs cells slots Q (F0 m pc ls st) :=
  va_calll (va_runV S hM cw (hw.preV hr) rfl hn hsz hst (lv_room hW) hdg hf) hw.2.2.1 (fun _ _ h => h) (fun _ h => h) (fun r u t H1 locs1 ht hvm hk hB _ _ hS => kk r u.1 u.2 H1 locs1 hk ⟨by rw [← ht]; exact hB.1, hw.2.1, hS, hw.2.2.2⟩)
theorem r_cvV {K : MI → ML → Prop} (S : CallFix p m c cc nL s args Ts own) (hM : CtV l y ws rm G Sh (.ref a :: As) I L K) (cw : CallW R s args own C index y bytes maxL ret ws rm 0 0 n) (hw : mW G Sh s I L H locs) (hr : ∃ cell : Cell, H[a]? = some cell ∧ cell.vm.isStatics = false ∧ s.vm.findClass C = some cell.cls) (hn : As.length = n) {st : List Value} (hst : st = As.reverse ++ .ref a :: rest) (hsz : ls.size = nL) (hW : (rest.map fun v => v.category).sum ≤ 8) (hf : cells ≤ R.cells ∧ slots ≤ R.slots) (hdg : decode cc pc = .ok (.invokevirtual index, 3))
    (kk : ∀ (I1 : MI) (L1 : ML) (H1 : Heap) (locs1 : List Loc), K I1 L1 → mW G Sh s I1 L1 H1 locs1 → W p l e R s m args below meth c H1 locs1 cells slots Q (F0 m (pc + 3) ls rest)) : W p l e R s m args below meth c H locs cells slots Q (F0 m pc ls st) :=
  va_callv (va_runV S hM cw (hw.preV hr) rfl hn hsz hst (lv_room hW) hdg hf) hw.2.2.1 (fun _ _ h => h) (fun _ h => h) (fun u t H1 locs1 ht hvm hk hB _ _ hS => kk u.1 u.2 H1 locs1 hk ⟨by rw [← ht]; exact hB.1, hw.2.1, hS, hw.2.2.2⟩)
theorem r_cvQ {K : Option Nat → MI → ML → Prop} (S : CallFix p m c cc nL s args Ts own) (hM : CtQ l y ws rm G Sh (.ref a :: As) I L K) (cw : CallW R s args own C index y bytes maxL ret ws rm 0 0 n) (hw : mW G Sh s I L H locs) (hr : ∃ cell : Cell, H[a]? = some cell ∧ cell.vm.isStatics = false ∧ s.vm.findClass C = some cell.cls) (hn : As.length = n) {st : List Value} (hst : st = As.reverse ++ .ref a :: rest) (hsz : ls.size = nL) (hW : (rest.map fun v => v.category).sum ≤ 8) (hf : cells ≤ R.cells ∧ slots ≤ R.slots) (hdg : decode cc pc = .ok (.invokevirtual index, 3))
    (kk : ∀ (r : Option Nat) (I1 : MI) (L1 : ML) (H1 : Heap) (locs1 : List Loc), K r I1 L1 → mW G Sh s I1 L1 H1 locs1 → W p l e R s m args below meth c H1 locs1 cells slots Q (F0 m (pc + 3) ls (va_rf r :: rest))) : W p l e R s m args below meth c H locs cells slots Q (F0 m pc ls st) :=
  va_callq (va_runV S hM cw (hw.preV hr) rfl hn hsz hst (lv_room hW) hdg hf) hw.2.2.1 (fun _ _ h => h) (fun _ h => h) (fun r u t H1 locs1 ht hvm hk hB _ _ hS => kk r u.1 u.2 H1 locs1 hk ⟨by rw [← ht]; exact hB.1, hw.2.1, hS, hw.2.2.2⟩)
theorem r_csI {K : Int32 → MI → ML → Prop} (S : CallFix p m c cc nL s args Ts own) (hM : CtI l y ws rm G Sh As I L K) (cw : CallB R s args own index y bytes maxL ret ws rm 0 0 n ∧ (Cond.static y).before args s = true) (hw : mW G Sh s I L H locs) (hn : As.length = n) {st : List Value} (hst : st = As.reverse ++ rest) (hsz : ls.size = nL) (hW : (rest.map fun v => v.category).sum ≤ 8) (hf : cells ≤ R.cells ∧ slots ≤ R.slots) (hdg : decode cc pc = .ok (.invokestatic index, 3))
    (kk : ∀ (r : Int32) (I1 : MI) (L1 : ML) (H1 : Heap) (locs1 : List Loc), K r I1 L1 → mW G Sh s I1 L1 H1 locs1 → W p l e R s m args below meth c H1 locs1 cells slots Q (F0 m (pc + 3) ls (.int r :: rest))) : W p l e R s m args below meth c H locs cells slots Q (F0 m pc ls st) :=
  va_calli (va_runS S hM cw hw.preS rfl hn hsz hst (lv_room hW) hdg hf) hw.2.2.1 (fun _ _ h => h) (fun _ h => h) (fun r u t H1 locs1 ht hvm hk hB _ _ hS => kk r u.1 u.2 H1 locs1 hk ⟨by rw [← ht]; exact hB.1, hw.2.1, hS, hw.2.2.2⟩)
theorem r_csL {K : Int64 → MI → ML → Prop} (S : CallFix p m c cc nL s args Ts own) (hM : CtL l y ws rm G Sh As I L K) (cw : CallB R s args own index y bytes maxL ret ws rm 0 0 n ∧ (Cond.static y).before args s = true) (hw : mW G Sh s I L H locs) (hn : As.length = n) {st : List Value} (hst : st = As.reverse ++ rest) (hsz : ls.size = nL) (hW : (rest.map fun v => v.category).sum ≤ 8) (hf : cells ≤ R.cells ∧ slots ≤ R.slots) (hdg : decode cc pc = .ok (.invokestatic index, 3))
    (kk : ∀ (r : Int64) (I1 : MI) (L1 : ML) (H1 : Heap) (locs1 : List Loc), K r I1 L1 → mW G Sh s I1 L1 H1 locs1 → W p l e R s m args below meth c H1 locs1 cells slots Q (F0 m (pc + 3) ls (.long r :: rest))) : W p l e R s m args below meth c H locs cells slots Q (F0 m pc ls st) :=
  va_calll (va_runS S hM cw hw.preS rfl hn hsz hst (lv_room hW) hdg hf) hw.2.2.1 (fun _ _ h => h) (fun _ h => h) (fun r u t H1 locs1 ht hvm hk hB _ _ hS => kk r u.1 u.2 H1 locs1 hk ⟨by rw [← ht]; exact hB.1, hw.2.1, hS, hw.2.2.2⟩)
theorem r_csV {K : MI → ML → Prop} (S : CallFix p m c cc nL s args Ts own) (hM : CtV l y ws rm G Sh As I L K) (cw : CallB R s args own index y bytes maxL ret ws rm 0 0 n ∧ (Cond.static y).before args s = true) (hw : mW G Sh s I L H locs) (hn : As.length = n) {st : List Value} (hst : st = As.reverse ++ rest) (hsz : ls.size = nL) (hW : (rest.map fun v => v.category).sum ≤ 8) (hf : cells ≤ R.cells ∧ slots ≤ R.slots) (hdg : decode cc pc = .ok (.invokestatic index, 3))
    (kk : ∀ (I1 : MI) (L1 : ML) (H1 : Heap) (locs1 : List Loc), K I1 L1 → mW G Sh s I1 L1 H1 locs1 → W p l e R s m args below meth c H1 locs1 cells slots Q (F0 m (pc + 3) ls rest)) : W p l e R s m args below meth c H locs cells slots Q (F0 m pc ls st) :=
  va_callv (va_runS S hM cw hw.preS rfl hn hsz hst (lv_room hW) hdg hf) hw.2.2.1 (fun _ _ h => h) (fun _ h => h) (fun u t H1 locs1 ht hvm hk hB _ _ hS => kk u.1 u.2 H1 locs1 hk ⟨by rw [← ht]; exact hB.1, hw.2.1, hS, hw.2.2.2⟩)
theorem r_csNI {K : Int32 → MI → ML → Prop} {host : String} (S : CallFix p m c cc nL s args Ts own) (hM : CtI l y ws rm G Sh As I L K) (cw : va_CN R s args own index y host bytes maxL ret ws rm 0 0 n ∧ (Cond.static y).before args s = true ∧ True) (hw : mW G Sh s I L H locs) (hn : As.length = n) {st : List Value} (hst : st = As.reverse ++ rest) (hsz : ls.size = nL) (hW : (rest.map fun v => v.category).sum ≤ 8) (hf : cells ≤ R.cells ∧ slots ≤ R.slots) (hdg : decode cc pc = .ok (.invokestatic index, 3))
    (kk : ∀ (r : Int32) (I1 : MI) (L1 : ML) (H1 : Heap) (locs1 : List Loc), K r I1 L1 → mW G Sh s I1 L1 H1 locs1 → W p l e R s m args below meth c H1 locs1 cells slots Q (F0 m (pc + 3) ls (.int r :: rest))) : W p l e R s m args below meth c H locs cells slots Q (F0 m pc ls st) :=
  va_calli (va_runSN S hM cw hw.preS rfl hn hsz hst (lv_room hW) hdg hf) hw.2.2.1 (fun _ _ h => h) (fun _ h => h) (fun r u t H1 locs1 ht hvm hk hB _ _ hS => kk r u.1 u.2 H1 locs1 hk ⟨by rw [← ht]; exact hB.1, hw.2.1, hS, hw.2.2.2⟩)
-- the ends
abbrev eI (below : List Frame) (G : GX) (Sh : SH) (K : Int32 → MI → ML → Prop) (args : Array Value) (s : State) : State → Prop := MQ below (va_Qi (fun (r : Int32) (u : MI × ML) => K r u.1 u.2) (fun (u : MI × ML) t => mB G Sh u.1 u.2 t) (mA G)) args s 0 0 (mA G)
abbrev eL (below : List Frame) (G : GX) (Sh : SH) (K : Int64 → MI → ML → Prop) (args : Array Value) (s : State) : State → Prop := MQ below (va_Ql (fun (r : Int64) (u : MI × ML) => K r u.1 u.2) (fun (u : MI × ML) t => mB G Sh u.1 u.2 t) (mA G)) args s 0 0 (mA G)
abbrev eV (below : List Frame) (G : GX) (Sh : SH) (K : MI → ML → Prop) (args : Array Value) (s : State) : State → Prop := MQ below (va_Qv (fun (u : MI × ML) => K u.1 u.2) (fun (u : MI × ML) t => mB G Sh u.1 u.2 t) (mA G)) args s 0 0 (mA G)
abbrev eQ (below : List Frame) (G : GX) (Sh : SH) (K : Option Nat → MI → ML → Prop) (args : Array Value) (s : State) : State → Prop := MQ below (va_Qq (fun (r : Option Nat) (u : MI × ML) => K r u.1 u.2) (fun (u : MI × ML) t => mB G Sh u.1 u.2 t) (mA G)) args s 0 0 (mA G)
theorem r_iret {K : Int32 → MI → ML → Prop} {v : Int32} (hx : p.tables.exec = Jvm.exec) (hb : c.code = cc) (hr : meth.sig.returnType = some .int) (hlocks : meth.locks = false) (hw : mW G Sh s I L H locs) (hk : K v I L) (hdg : decode cc pc = .ok (.ireturn, 1)) : W p l e R s m args below meth c H locs 0 0 (eI below G Sh K args s) (F0 m pc ls [.int v]) :=
  W.iret hx hb hr (fun t ht hW => ⟨⟨v, (I, L), rfl, hk, (hw.ends ht hW).1⟩, (hw.ends ht hW).2⟩) hw.2.2.1.2.2 hdg hlocks
theorem r_zret {K : Int32 → MI → ML → Prop} {v : Int32} (hx : p.tables.exec = Jvm.exec) (hb : c.code = cc) (hr : meth.sig.returnType = some .boolean) (hlocks : meth.locks = false) (hw : mW G Sh s I L H locs) (hk : v &&& 1 = v ∧ K v I L) (hdg : decode cc pc = .ok (.ireturn, 1)) : W p l e R s m args below meth c H locs 0 0 (eI below G Sh K args s) (F0 m pc ls [.int v]) :=
  W.zret hx hb hr (congrArg Value.int hk.1) (fun t ht hW => ⟨⟨v, (I, L), rfl, hk.2, (hw.ends ht hW).1⟩, (hw.ends ht hW).2⟩) hw.2.2.1.2.2 hdg hlocks
theorem r_lret {K : Int64 → MI → ML → Prop} {v : Int64} (hx : p.tables.exec = Jvm.exec) (hb : c.code = cc) (hr : meth.sig.returnType = some .long) (hlocks : meth.locks = false) (hw : mW G Sh s I L H locs) (hk : K v I L) (hdg : decode cc pc = .ok (.lreturn, 1)) : W p l e R s m args below meth c H locs 0 0 (eL below G Sh K args s) (F0 m pc ls [.long v]) :=
  W.lret hx hb hr (fun t ht hW => ⟨⟨v, (I, L), rfl, hk, (hw.ends ht hW).1⟩, (hw.ends ht hW).2⟩) hw.2.2.1.2.2 hdg hlocks
theorem r_vret {K : MI → ML → Prop} (hx : p.tables.exec = Jvm.exec) (hb : c.code = cc) (hr : meth.sig.returnType = none) (hlocks : meth.locks = false) (hw : mW G Sh s I L H locs) (hk : K I L) (hdg : decode cc pc = .ok (.return_, 1)) : W p l e R s m args below meth c H locs 0 0 (eV below G Sh K args s) (F0 m pc ls []) :=
  W.vret hx hb hr (fun t ht hW => ⟨⟨(I, L), rfl, hk, (hw.ends ht hW).1⟩, (hw.ends ht hW).2⟩) hw.2.2.1.2.2 hdg hlocks
theorem r_qret {K : Option Nat → MI → ML → Prop} {r : Option Nat} {C : String} (hx : p.tables.exec = Jvm.exec) (hb : c.code = cc) (hr : meth.sig.returnType = some (.object C)) (hlocks : meth.locks = false) (hw : mW G Sh s I L H locs) (hk : K r I L) (hdg : decode cc pc = .ok (.areturn, 1)) : W p l e R s m args below meth c H locs 0 0 (eQ below G Sh K args s) (F0 m pc ls [va_rf r]) :=
  W.aret hx hb hr (Or.inl ⟨C, rfl⟩) (va_rf_or r) (fun t ht hW => ⟨⟨r, (I, L), rfl, hk, (hw.ends ht hW).1⟩, (hw.ends ht hW).2⟩) hw.2.2.1.2.2 hdg hlocks
end MC
