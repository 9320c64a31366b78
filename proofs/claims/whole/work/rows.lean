section
-- ===== PART A: goes FIRST, ahead of the names: the tables' words, and 'selects' of the private methods out of them =====
/-- a private method of a class that the tables say can be made, by its rows of tables_1 -/
def lw_okq (q : MethodName × Nat) : Prop := (q.1.cls ≠ "java/lang/invoke/MethodHandle" ∧ q.1.cls ≠ "java/lang/invoke/VarHandle") ∧ Cond.instantiable q.1.cls q.2 ∈ tables_1 ∧ Cond.privateMethod q.1 ∈ tables_1 ∧ Cond.instanceMethod q.1 ∈ tables_1
theorem lw_p0 : lw_okq (⟨"AlignRows", "find", "(I)LAlignRows$Table;"⟩, 2) := ⟨⟨by decide +kernel, by decide +kernel⟩, List.mem_of_getElem? (i := 18) (by decide +kernel), List.mem_of_getElem? (i := 248) (by decide +kernel), List.mem_of_getElem? (i := 249) (by decide +kernel)⟩
theorem lw_p1 : lw_okq (⟨"AlignRows$Preamble", "putSigns", "(I)V"⟩, 8) := ⟨⟨by decide +kernel, by decide +kernel⟩, List.mem_of_getElem? (i := 44) (by decide +kernel), List.mem_of_getElem? (i := 269) (by decide +kernel), List.mem_of_getElem? (i := 270) (by decide +kernel)⟩
theorem lw_p2 : lw_okq (⟨"AlignRows$Preamble", "findWrongPlace", "()I"⟩, 8) := ⟨⟨by decide +kernel, by decide +kernel⟩, List.mem_of_getElem? (i := 44) (by decide +kernel), List.mem_of_getElem? (i := 281) (by decide +kernel), List.mem_of_getElem? (i := 282) (by decide +kernel)⟩
theorem lw_p3 : lw_okq (⟨"AlignRows$Preamble", "takeSign", "(I)Z"⟩, 8) := ⟨⟨by decide +kernel, by decide +kernel⟩, List.mem_of_getElem? (i := 44) (by decide +kernel), List.mem_of_getElem? (i := 288) (by decide +kernel), List.mem_of_getElem? (i := 289) (by decide +kernel)⟩
theorem lw_p4 : lw_okq (⟨"AlignRows$Preamble", "beginTemplate", "()Z"⟩, 8) := ⟨⟨by decide +kernel, by decide +kernel⟩, List.mem_of_getElem? (i := 44) (by decide +kernel), List.mem_of_getElem? (i := 292) (by decide +kernel), List.mem_of_getElem? (i := 293) (by decide +kernel)⟩
theorem lw_p5 : lw_okq (⟨"AlignRows$Preamble", "beginRepeat", "(I)Z"⟩, 8) := ⟨⟨by decide +kernel, by decide +kernel⟩, List.mem_of_getElem? (i := 44) (by decide +kernel), List.mem_of_getElem? (i := 296) (by decide +kernel), List.mem_of_getElem? (i := 297) (by decide +kernel)⟩
theorem lw_p6 : lw_okq (⟨"AlignRows$Table", "putItem", "(I)V"⟩, 9) := ⟨⟨by decide +kernel, by decide +kernel⟩, List.mem_of_getElem? (i := 38) (by decide +kernel), List.mem_of_getElem? (i := 333) (by decide +kernel), List.mem_of_getElem? (i := 334) (by decide +kernel)⟩
theorem lw_p7 : lw_okq (⟨"AlignRows$LastRun", "gatherNeeds", "(LAlignRows$Table;)V"⟩, 13) := ⟨⟨by decide +kernel, by decide +kernel⟩, List.mem_of_getElem? (i := 86) (by decide +kernel), List.mem_of_getElem? (i := 406) (by decide +kernel), List.mem_of_getElem? (i := 407) (by decide +kernel)⟩
theorem lw_p8 : lw_okq (⟨"AlignRows$LastRun", "findWidths", "(LAlignRows$Table;)V"⟩, 13) := ⟨⟨by decide +kernel, by decide +kernel⟩, List.mem_of_getElem? (i := 86) (by decide +kernel), List.mem_of_getElem? (i := 423) (by decide +kernel), List.mem_of_getElem? (i := 424) (by decide +kernel)⟩
theorem lw_p9 : lw_okq (⟨"AlignRows$LastRun", "naturalWidth", "()J"⟩, 13) := ⟨⟨by decide +kernel, by decide +kernel⟩, List.mem_of_getElem? (i := 86) (by decide +kernel), List.mem_of_getElem? (i := 441) (by decide +kernel), List.mem_of_getElem? (i := 442) (by decide +kernel)⟩
theorem lw_p10 : lw_okq (⟨"AlignRows$LastRun", "gatherGives", "(LAlignRows$Table;)V"⟩, 13) := ⟨⟨by decide +kernel, by decide +kernel⟩, List.mem_of_getElem? (i := 86) (by decide +kernel), List.mem_of_getElem? (i := 445) (by decide +kernel), List.mem_of_getElem? (i := 446) (by decide +kernel)⟩
theorem lw_p11 : lw_okq (⟨"AlignRows$LastRun", "greatestOrder", "()I"⟩, 13) := ⟨⟨by decide +kernel, by decide +kernel⟩, List.mem_of_getElem? (i := 86) (by decide +kernel), List.mem_of_getElem? (i := 449) (by decide +kernel), List.mem_of_getElem? (i := 450) (by decide +kernel)⟩
theorem lw_p12 : lw_okq (⟨"AlignRows$LastRun", "share", "()V"⟩, 13) := ⟨⟨by decide +kernel, by decide +kernel⟩, List.mem_of_getElem? (i := 86) (by decide +kernel), List.mem_of_getElem? (i := 453) (by decide +kernel), List.mem_of_getElem? (i := 454) (by decide +kernel)⟩
theorem lw_p13 : lw_okq (⟨"AlignRows$LastRun", "wholeSum", "()J"⟩, 13) := ⟨⟨by decide +kernel, by decide +kernel⟩, List.mem_of_getElem? (i := 86) (by decide +kernel), List.mem_of_getElem? (i := 457) (by decide +kernel), List.mem_of_getElem? (i := 458) (by decide +kernel)⟩
theorem lw_p14 : lw_okq (⟨"AlignRows$LastRun", "giveOf", "(I)J"⟩, 13) := ⟨⟨by decide +kernel, by decide +kernel⟩, List.mem_of_getElem? (i := 86) (by decide +kernel), List.mem_of_getElem? (i := 461) (by decide +kernel), List.mem_of_getElem? (i := 462) (by decide +kernel)⟩
theorem lw_p15 : lw_okq (⟨"AlignRows$LastRun", "findPlaces", "(JJ)V"⟩, 13) := ⟨⟨by decide +kernel, by decide +kernel⟩, List.mem_of_getElem? (i := 86) (by decide +kernel), List.mem_of_getElem? (i := 471) (by decide +kernel), List.mem_of_getElem? (i := 472) (by decide +kernel)⟩
def lw_privs_1 : List (MethodName × Nat) := [(⟨"AlignRows", "find", "(I)LAlignRows$Table;"⟩, 2), (⟨"AlignRows$Preamble", "putSigns", "(I)V"⟩, 8), (⟨"AlignRows$Preamble", "findWrongPlace", "()I"⟩, 8), (⟨"AlignRows$Preamble", "takeSign", "(I)Z"⟩, 8), (⟨"AlignRows$Preamble", "beginTemplate", "()Z"⟩, 8), (⟨"AlignRows$Preamble", "beginRepeat", "(I)Z"⟩, 8), (⟨"AlignRows$Table", "putItem", "(I)V"⟩, 9), (⟨"AlignRows$LastRun", "gatherNeeds", "(LAlignRows$Table;)V"⟩, 13), (⟨"AlignRows$LastRun", "findWidths", "(LAlignRows$Table;)V"⟩, 13), (⟨"AlignRows$LastRun", "naturalWidth", "()J"⟩, 13), (⟨"AlignRows$LastRun", "gatherGives", "(LAlignRows$Table;)V"⟩, 13), (⟨"AlignRows$LastRun", "greatestOrder", "()I"⟩, 13), (⟨"AlignRows$LastRun", "share", "()V"⟩, 13), (⟨"AlignRows$LastRun", "wholeSum", "()J"⟩, 13), (⟨"AlignRows$LastRun", "giveOf", "(I)J"⟩, 13), (⟨"AlignRows$LastRun", "findPlaces", "(JJ)V"⟩, 13)]
theorem lw_r1 : ∀ q ∈ lw_privs_1, lw_okq q := List.forall_mem_cons.mpr ⟨lw_p0, List.forall_mem_cons.mpr ⟨lw_p1, List.forall_mem_cons.mpr ⟨lw_p2, List.forall_mem_cons.mpr ⟨lw_p3, List.forall_mem_cons.mpr ⟨lw_p4, List.forall_mem_cons.mpr ⟨lw_p5, List.forall_mem_cons.mpr ⟨lw_p6, List.forall_mem_cons.mpr ⟨lw_p7, List.forall_mem_cons.mpr ⟨lw_p8, List.forall_mem_cons.mpr ⟨lw_p9, List.forall_mem_cons.mpr ⟨lw_p10, List.forall_mem_cons.mpr ⟨lw_p11, List.forall_mem_cons.mpr ⟨lw_p12, List.forall_mem_cons.mpr ⟨lw_p13, List.forall_mem_cons.mpr ⟨lw_p14, List.forall_mem_cons.mpr ⟨lw_p15, fun _ h => absurd h List.not_mem_nil⟩⟩⟩⟩⟩⟩⟩⟩⟩⟩⟩⟩⟩⟩⟩⟩
theorem lw_p16 : lw_okq (⟨"java/lang/Throwable", "fillInStackTrace", "(I)Ljava/lang/Throwable;"⟩, 6) := ⟨⟨by decide +kernel, by decide +kernel⟩, List.mem_of_getElem? (i := 519) (by decide +kernel), List.mem_of_getElem? (i := 517) (by decide +kernel), List.mem_of_getElem? (i := 518) (by decide +kernel)⟩
theorem lw_p17 : lw_okq (⟨"AlignRowsModel", "isTable", "(I)Z"⟩, 38) := ⟨⟨by decide +kernel, by decide +kernel⟩, List.mem_of_getElem? (i := 629) (by decide +kernel), List.mem_of_getElem? (i := 762) (by decide +kernel), List.mem_of_getElem? (i := 763) (by decide +kernel)⟩
theorem lw_p18 : lw_okq (⟨"AlignRowsModel", "readAll", "(I)V"⟩, 38) := ⟨⟨by decide +kernel, by decide +kernel⟩, List.mem_of_getElem? (i := 629) (by decide +kernel), List.mem_of_getElem? (i := 776) (by decide +kernel), List.mem_of_getElem? (i := 777) (by decide +kernel)⟩
theorem lw_p19 : lw_okq (⟨"AlignRowsModel", "sign", "(I)I"⟩, 38) := ⟨⟨by decide +kernel, by decide +kernel⟩, List.mem_of_getElem? (i := 629) (by decide +kernel), List.mem_of_getElem? (i := 780) (by decide +kernel), List.mem_of_getElem? (i := 781) (by decide +kernel)⟩
theorem lw_p20 : lw_okq (⟨"AlignRowsModel", "passLetters", "(I)I"⟩, 38) := ⟨⟨by decide +kernel, by decide +kernel⟩, List.mem_of_getElem? (i := 629) (by decide +kernel), List.mem_of_getElem? (i := 784) (by decide +kernel), List.mem_of_getElem? (i := 785) (by decide +kernel)⟩
theorem lw_p21 : lw_okq (⟨"AlignRowsModel", "wrongGlue", "(II)I"⟩, 38) := ⟨⟨by decide +kernel, by decide +kernel⟩, List.mem_of_getElem? (i := 629) (by decide +kernel), List.mem_of_getElem? (i := 792) (by decide +kernel), List.mem_of_getElem? (i := 793) (by decide +kernel)⟩
theorem lw_p22 : lw_okq (⟨"AlignRowsModel", "stand", "(II)V"⟩, 38) := ⟨⟨by decide +kernel, by decide +kernel⟩, List.mem_of_getElem? (i := 629) (by decide +kernel), List.mem_of_getElem? (i := 810) (by decide +kernel), List.mem_of_getElem? (i := 811) (by decide +kernel)⟩
theorem lw_p23 : lw_okq (⟨"AlignRowsModel", "free", "(I)I"⟩, 38) := ⟨⟨by decide +kernel, by decide +kernel⟩, List.mem_of_getElem? (i := 629) (by decide +kernel), List.mem_of_getElem? (i := 820) (by decide +kernel), List.mem_of_getElem? (i := 821) (by decide +kernel)⟩
theorem lw_p24 : lw_okq (⟨"AlignRowsModel", "columnsOf", "(I)I"⟩, 38) := ⟨⟨by decide +kernel, by decide +kernel⟩, List.mem_of_getElem? (i := 629) (by decide +kernel), List.mem_of_getElem? (i := 824) (by decide +kernel), List.mem_of_getElem? (i := 825) (by decide +kernel)⟩
theorem lw_p25 : lw_okq (⟨"AlignRowsModel", "templateOf", "(II)I"⟩, 38) := ⟨⟨by decide +kernel, by decide +kernel⟩, List.mem_of_getElem? (i := 629) (by decide +kernel), List.mem_of_getElem? (i := 828) (by decide +kernel), List.mem_of_getElem? (i := 829) (by decide +kernel)⟩
theorem lw_p26 : lw_okq (⟨"AlignRowsModel", "add", "(III)I"⟩, 38) := ⟨⟨by decide +kernel, by decide +kernel⟩, List.mem_of_getElem? (i := 629) (by decide +kernel), List.mem_of_getElem? (i := 832) (by decide +kernel), List.mem_of_getElem? (i := 833) (by decide +kernel)⟩
theorem lw_p27 : lw_okq (⟨"AlignRowsModel", "findWidths", "(I)V"⟩, 38) := ⟨⟨by decide +kernel, by decide +kernel⟩, List.mem_of_getElem? (i := 629) (by decide +kernel), List.mem_of_getElem? (i := 858) (by decide +kernel), List.mem_of_getElem? (i := 859) (by decide +kernel)⟩
theorem lw_p28 : lw_okq (⟨"AlignRowsModel", "glueBehind", "(II)I"⟩, 38) := ⟨⟨by decide +kernel, by decide +kernel⟩, List.mem_of_getElem? (i := 629) (by decide +kernel), List.mem_of_getElem? (i := 862) (by decide +kernel), List.mem_of_getElem? (i := 863) (by decide +kernel)⟩
theorem lw_p29 : lw_okq (⟨"AlignRowsModel", "widthOfGlue", "(II)J"⟩, 38) := ⟨⟨by decide +kernel, by decide +kernel⟩, List.mem_of_getElem? (i := 629) (by decide +kernel), List.mem_of_getElem? (i := 866) (by decide +kernel), List.mem_of_getElem? (i := 867) (by decide +kernel)⟩
theorem lw_p30 : lw_okq (⟨"AlignRowsModel", "share", "(I)V"⟩, 38) := ⟨⟨by decide +kernel, by decide +kernel⟩, List.mem_of_getElem? (i := 629) (by decide +kernel), List.mem_of_getElem? (i := 870) (by decide +kernel), List.mem_of_getElem? (i := 871) (by decide +kernel)⟩
theorem lw_p31 : lw_okq (⟨"AlignRowsModel", "sumOf", "(IIZI)J"⟩, 38) := ⟨⟨by decide +kernel, by decide +kernel⟩, List.mem_of_getElem? (i := 629) (by decide +kernel), List.mem_of_getElem? (i := 874) (by decide +kernel), List.mem_of_getElem? (i := 875) (by decide +kernel)⟩
def lw_privs_2 : List (MethodName × Nat) := [(⟨"java/lang/Throwable", "fillInStackTrace", "(I)Ljava/lang/Throwable;"⟩, 6), (⟨"AlignRowsModel", "isTable", "(I)Z"⟩, 38), (⟨"AlignRowsModel", "readAll", "(I)V"⟩, 38), (⟨"AlignRowsModel", "sign", "(I)I"⟩, 38), (⟨"AlignRowsModel", "passLetters", "(I)I"⟩, 38), (⟨"AlignRowsModel", "wrongGlue", "(II)I"⟩, 38), (⟨"AlignRowsModel", "stand", "(II)V"⟩, 38), (⟨"AlignRowsModel", "free", "(I)I"⟩, 38), (⟨"AlignRowsModel", "columnsOf", "(I)I"⟩, 38), (⟨"AlignRowsModel", "templateOf", "(II)I"⟩, 38), (⟨"AlignRowsModel", "add", "(III)I"⟩, 38), (⟨"AlignRowsModel", "findWidths", "(I)V"⟩, 38), (⟨"AlignRowsModel", "glueBehind", "(II)I"⟩, 38), (⟨"AlignRowsModel", "widthOfGlue", "(II)J"⟩, 38), (⟨"AlignRowsModel", "share", "(I)V"⟩, 38), (⟨"AlignRowsModel", "sumOf", "(IIZI)J"⟩, 38)]
theorem lw_r2 : ∀ q ∈ lw_privs_2, lw_okq q := List.forall_mem_cons.mpr ⟨lw_p16, List.forall_mem_cons.mpr ⟨lw_p17, List.forall_mem_cons.mpr ⟨lw_p18, List.forall_mem_cons.mpr ⟨lw_p19, List.forall_mem_cons.mpr ⟨lw_p20, List.forall_mem_cons.mpr ⟨lw_p21, List.forall_mem_cons.mpr ⟨lw_p22, List.forall_mem_cons.mpr ⟨lw_p23, List.forall_mem_cons.mpr ⟨lw_p24, List.forall_mem_cons.mpr ⟨lw_p25, List.forall_mem_cons.mpr ⟨lw_p26, List.forall_mem_cons.mpr ⟨lw_p27, List.forall_mem_cons.mpr ⟨lw_p28, List.forall_mem_cons.mpr ⟨lw_p29, List.forall_mem_cons.mpr ⟨lw_p30, List.forall_mem_cons.mpr ⟨lw_p31, fun _ h => absurd h List.not_mem_nil⟩⟩⟩⟩⟩⟩⟩⟩⟩⟩⟩⟩⟩⟩⟩⟩
theorem lw_p32 : lw_okq (⟨"AlignRowsModel", "gives", "(IIZI)J"⟩, 38) := ⟨⟨by decide +kernel, by decide +kernel⟩, List.mem_of_getElem? (i := 629) (by decide +kernel), List.mem_of_getElem? (i := 878) (by decide +kernel), List.mem_of_getElem? (i := 879) (by decide +kernel)⟩
theorem lw_p33 : lw_okq (⟨"AlignRowsModel", "isColumn", "(II)Z"⟩, 38) := ⟨⟨by decide +kernel, by decide +kernel⟩, List.mem_of_getElem? (i := 629) (by decide +kernel), List.mem_of_getElem? (i := 886) (by decide +kernel), List.mem_of_getElem? (i := 887) (by decide +kernel)⟩
def lw_privs_3 : List (MethodName × Nat) := [(⟨"AlignRowsModel", "gives", "(IIZI)J"⟩, 38), (⟨"AlignRowsModel", "isColumn", "(II)Z"⟩, 38)]
theorem lw_r3 : ∀ q ∈ lw_privs_3, lw_okq q := List.forall_mem_cons.mpr ⟨lw_p32, List.forall_mem_cons.mpr ⟨lw_p33, fun _ h => absurd h List.not_mem_nil⟩⟩
def lw_privs : List (MethodName × Nat) := lw_privs_1 ++ (lw_privs_2 ++ (lw_privs_3))
def lw_tbl : List Cond := k2_sels lw_privs ++ tables_1
theorem lw_privs_ok : ∀ q ∈ lw_privs, lw_okq q := by
  show ∀ q ∈ lw_privs_1 ++ (lw_privs_2 ++ (lw_privs_3)), lw_okq q
  exact List.forall_mem_append.mpr ⟨lw_r1, List.forall_mem_append.mpr ⟨lw_r2, lw_r3⟩⟩
-- ===== end of PART A; then your names; then what follows =====
end
section
/-! ===== BEGIN words of one list among another's, by their places ===== -/
theorem goodIn_r {big : List Cond} (ws : List Cond) (ps : List Nat) (hp : ws = ps.filterMap (fun i => big[i]?)) (h : ws.all goodWord = true) : GoodIn big ws := by
  intro w hw
  have h1 := List.all_eq_true.mp h w hw
  rw [hp] at hw
  obtain ⟨i, -, hi⟩ := List.mem_filterMap.mp hw
  have hm : w ∈ big := by first | exact List.mem_of_getElem? hi | exact List.getElem?_mem hi
  exact ⟨hm, good_of_word h1⟩
theorem goodIn_app {big a b : List Cond} (ha : GoodIn big a) (hb : GoodIn big b) : GoodIn big (a ++ b) := fun w h => (List.mem_append.mp h).elim (ha w) (hb w)
theorem goodIn_ca {big a b : List Cond} {c : Cond} (ha : GoodIn big (c :: a)) (hb : GoodIn big b) : GoodIn big (c :: (a ++ b)) := fun w h => (List.mem_cons.mp h).elim (fun e => ha w (List.mem_cons.mpr (Or.inl e))) (fun h => (List.mem_append.mp h).elim (fun h => ha w (List.mem_cons.mpr (Or.inr h))) (hb w))
theorem goodIn_sub {big ws : List Cond} (hm : ∀ w ∈ ws, w ∈ big) (h : ws.all goodWord = true) : GoodIn big ws := fun w hw => ⟨hm w hw, good_of_word (List.all_eq_true.mp h w hw)⟩
/-! ===== END ===== -/
/-! ===== BEGIN exceptions that leave a method, and their catching by the caller (launches without stack traces) ===== -/
section VXA
/-! The laws vx_back, vx_callV, vx_callS, vx_callSW, vx_throw0, vx_throwS follow proofs of the library, with one case more: JvmDerived/Free/Laws.lean (Back.of_free), Shelf42/LK1.lean (callV, callS), Shelf/KitTraced.lean (throwNew0V, throwNewS). -/
/-- where a method has thrown q: the class by its name, the cell, what was written, the world -/
def vx_T (XC : String → State → State → Prop) (st : State) (q : Addr) (t : State) (mc ms : Nat) (free : Addr → Prop) : Prop :=
  ∃ (E : String) (ce : Cell) (L : List Loc), XC E st t ∧ t.heap[q]? = some ce ∧ ce.vm = .none ∧ st.vm.findClass E = some ce.cls ∧ st.WarmedH t.vm ∧ st.sameButNew ({ t with vm := st.vm } : State) L mc ms ∧ ∀ z ∈ L, free z.base
def vx_Q (Qc : Array Value → State → Outcome → State → Prop) (XC : String → State → State → Prop) (mc ms : Nat) (free : Addr → Prop) : Array Value → State → Outcome → State → Prop := fun a st o t =>
  (Qc a st o t ∧ ∃ L, FrameEnd st o t L mc ms ∧ ∀ q ∈ L, free q.base) ∨ ∃ q, o = .threw q ∧ vx_T XC st q t mc ms free
/-- a callee that returns or throws -/
def vx_Met (l : Launch) (y : MethodName) (ws : List Cond) (rm : Room) (Pc : Array Value → State → Prop) (Qc : Array Value → State → Outcome → State → Prop) (XC : String → State → State → Prop) (mc ms : Nat) (free : Addr → Prop) : Prop :=
  MetFree l y (headSpec ws rm) Pc (fun _ _ _ _ _ => True) (vx_Q Qc XC mc ms free)
def vx_Post (XC : String → State → State → Prop) (mc ms : Nat) (free : Addr → Prop) : Pt → Array Value → Addr → Pt → Prop := fun A a q B =>
  ∃ (g : JFrame) (mk : MethodId) (t : State) (L : List Loc) (E : String) (ce : Cell), B.U.heap = t.heap ∧ B.U.vm = t.vm ∧ XC E (A.U.calling g mk a) t ∧ t.heap[q]? = some ce ∧ ce.vm = .none ∧ A.U.vm.findClass E = some ce.cls ∧ B.locs = A.locs ++ L ∧ (∀ z ∈ L, free z.base) ∧ B.cells = A.cells + mc ∧ B.slots = A.slots + ms
def vx_Back (l : Launch) (R : Room) (p : Program) (e : Env) (below : List Frame) (s : State) (sargs : Array Value) (y : MethodName) (len W9 : Nat)
    (Pre : Pt → Array Value → Prop) (Post : Pt → Array Value → Option Value → Pt → Prop) (PostX : Pt → Array Value → Addr → Pt → Prop) : Prop :=
  ∀ (m : MethodId) (meth : Method) (c : Code) (A : Pt) (g : JFrame) (ig : Instr) (mk : MethodId) (a : Array Value),
    Stand p l e R s m sargs below meth c A.U A.locs A.cells A.slots → g.method = m → g.locals.size = c.maxLocals → decode c.code g.pc = .ok (ig, len) →
    2 * g.monitorRoom + (g.stack.map fun v => v.category).sum ≤ W9 → A.U.methodNamed? y = some mk → Pre A a →
    (∃ (v : Option Value) (B : Pt), Stand p l e R s m sargs below meth c B.U B.locs B.cells B.slots ∧ Post A a v B ∧
      Steps p.tables e below (doInvoke e (A.U.setTop g) [] mk a).1 (B.U.setTop { g with pc := g.pc + len, stack := v.toList ++ g.stack })) ∨
    (∃ (q : Addr) (B : Pt), Stand p l e R s m sargs below meth c B.U B.locs B.cells B.slots ∧ PostX A a q B ∧
      Steps p.tables e below (doInvoke e (A.U.setTop g) [] mk a).1 ((B.U.setTop g).pushFrame (.throwing q)))
section Payer
variable {l : Launch} {R : Room} {p : Program} {e : Env} {below : List Frame} {s : State} {sargs : Array Value} {y : MethodName} {len W9 : Nat}
theorem vx_back {ws : List Cond} {rm : Room} {Pc : Array Value → State → Prop} {Qc : Array Value → State → Outcome → State → Prop} {XC : String → State → State → Prop} {mc ms : Nat} {free : Addr → Prop} {bytes : ByteArray} {maxL : Nat} {ret : Option FieldType}
    (hM : vx_Met l y ws rm Pc Qc XC mc ms free) (hblind : FrameBlind Pc) (hrc : rm.cells = mc) (hrs : rm.slots = ms)
    (hframes : rm.frames + 1 ≤ R.frames) (hlocals : W9 + (maxL + 11) + rm.locals ≤ R.locals)
    (hws : ∀ w ∈ ws, ∀ a' U, s.WarmedH U.vm → w.before a' U = true) (hcode : Cond.code y bytes maxL ret ∈ ws) (hinit : ∀ a' U, s.WarmedH U.vm → (Cond.initialized y.cls).before a' U = true) :
    vx_Back l R p e below s sargs y len W9 (PreOf R mc ms Pc) (PostOf Qc mc ms free) (vx_Post XC mc ms free) := by
  intro m meth c A g ig mk a X hg hsize hdg hW hn hp
  have h1 : (headSpec ws rm).pre.before a A.U = true := atoms_intro fun w hw => hws w hw _ _ X.warmed
  have h2 : (Cond.code y bytes maxL ret).before a A.U = true := hws _ hcode _ _ X.warmed
  have h3 : (Cond.initialized y.cls).before a A.U = true := hinit _ _ X.warmed
  have h4 : A.cells + (headSpec ws rm).room.cells ≤ R.cells := by rw [show (headSpec ws rm).room.cells = mc from hrc]; exact hp.1
  have h5 : A.slots + (headSpec ws rm).room.slots ≤ R.slots := by rw [show (headSpec ws rm).room.slots = ms from hrs]; exact hp.2.1
  have hPc : Pc a (A.U.calling g mk a) := hblind _ _ _ _ hp.2.2
  obtain ⟨U, Ls, c0, s0⟩ := A
  dsimp only [Pt.U, Pt.locs, Pt.cells, Pt.slots] at h1 h2 h3 h4 h5 X hn hPc ⊢
  obtain ⟨methY, cY, hmY, hcY, -, hlY, -, -, -, -⟩ := Cond.code_spec hn h2
  obtain ⟨kY, hkY, -⟩ := className_of_methodNamed hn
  have hinitY : kY.init = .initialized := Cond.initialized_spec (findClass_of_methodNamed hn) hkY h3
  have h : At U g.method c below := by rw [hg]; exact X.here
  have hlocals9 : W9 + (maxL + 11) + (headSpec ws rm).room.locals ≤ R.locals := hlocals
  have happ : (headSpec ws rm).appliesLoose y e.platform (U.calling g mk a) = true :=
    Spec.appliesLoose_calling (g := g) h hdg hn hkY hinitY
      (X.room_calling (g := g) (R' := (headSpec ws rm).room) hsize hmY hcY hframes (by rw [hlY]; omega) h4 h5) h1
  obtain ⟨mid, hmid⟩ := h.above
  have hfr : (U.setTop g).frames = (.java g :: mid) ++ below := by rw [State.frames_setTop' g h.top, hmid]; rfl
  obtain ⟨o, s₂, hsteps, -, hend, hq⟩ := Steps.callFree hM p X.admits X.cas X.clock (acts := []) hfr happ hPc trivial
  have hq' : vx_Q Qc XC mc ms free a (U.calling g mk a) o s₂ := hq
  rw [State.frames_setTop' g h.top] at hend
  obtain ⟨g₀, hg0⟩ := Option.isSome_iff_exists.mp h.top
  obtain ⟨r, hr⟩ := State.topJava?_eq_some.mp hg0
  have hr' : (({ U with heap := s₂.heap, slotsUsed := s₂.slotsUsed } : State).setVm s₂.vm).frames = .java g₀ :: r := hr
  rcases hq' with ⟨hqc, L, hfe, hL⟩ | ⟨q, rfl, E, ce, L, hx, hce, hcv, hcl, hW₂, hsm, hL⟩
  · obtain ⟨⟨v, rfl⟩, hW₂, e2, q2, q3, q4, q5, q6⟩ := id hfe
    have e3 : s₂ = ({ (U.calling g mk a).setFrames s₂.frames with heap := s₂.heap, slotsUsed := s₂.slotsUsed } : State).setVm s₂.vm := by
      have : s₂ = ({ s₂ with vm := (U.calling g mk a).vm } : State).setVm s₂.vm := rfl
      rw [e2] at this
      exact this
    obtain ⟨c₂, i₂, len₂, hc₂, hd₂, hf₂⟩ := hend
    have hW' : U.WarmedH s₂.vm := hW₂
    have hcc : c₂ = c := by
      have h1 : s₂.code? g.method = U.code? g.method := by
        rw [State.code?_eq, State.code?_eq, hW'.alike.method?]
      exact Option.some.inj (hc₂.symm.trans (h1.trans h.code))
    subst hcc
    have hlen : len₂ = len := by rw [hdg] at hd₂; cases hd₂; rfl
    subst hlen
    have hs₂ : s₂ = (({ U with heap := s₂.heap, slotsUsed := s₂.slotsUsed } : State).setVm s₂.vm).setTop { g with pc := g.pc + len₂, stack := v.toList ++ g.stack } := by
      refine e3.trans ?_
      rw [hf₂, State.calling_eq h.top, State.setFrames_setFrames, State.setTop_of_frames _ hr', hr]
      rfl
    have hsame : U.sameButNew ({ U with heap := s₂.heap, slotsUsed := s₂.slotsUsed } : State) L mc ms := by
      refine ⟨?_, q2, q3, q4, q5, q6⟩
      obtain ⟨t, ht, -⟩ := State.frames_cons hr
      show ({ U with heap := s₂.heap, slotsUsed := s₂.slotsUsed } : State) = { U.setFrames U.frames with heap := s₂.heap, slotsUsed := s₂.slotsUsed }
      rw [State.setFrames_self ht]
    subst hg
    refine Or.inl ⟨v, ⟨(({ U with heap := s₂.heap, slotsUsed := s₂.slotsUsed } : State).setVm s₂.vm), Ls ++ L, c0 + mc, s0 + ms⟩,
      ⟨X.admits, X.cas, X.clock, X.frames, X.room, X.hears, X.method, X.code, (X.here.setHeapUsed s₂.heap s₂.slotsUsed).setVm hW'.alike, X.tail, State.WarmedH.trans X.warmed hW', X.limits, X.bytes, X.same.trans (hsame.setVm s.vm)⟩,
      ⟨g, mk, s₂, L, rfl, rfl, hqc, rfl, hL, rfl, rfl⟩, ?_⟩
    show Steps p.tables e below _ ((({ U with heap := s₂.heap, slotsUsed := s₂.slotsUsed } : State).setVm s₂.vm).setTop { g with pc := g.pc + len₂, stack := v.toList ++ g.stack })
    rw [← hs₂]
    exact hsteps
  · obtain ⟨e2, q2, q3, q4, q5, q6⟩ := id hsm
    have e3 : s₂ = ({ (U.calling g mk a).setFrames s₂.frames with heap := s₂.heap, slotsUsed := s₂.slotsUsed } : State).setVm s₂.vm := by
      have : s₂ = ({ s₂ with vm := (U.calling g mk a).vm } : State).setVm s₂.vm := rfl
      rw [e2] at this
      exact this
    have hf₂ : s₂.frames = .throwing q :: .java g :: U.frames.tail := hend
    have hW' : U.WarmedH s₂.vm := hW₂
    have hs₂ : s₂ = ((({ U with heap := s₂.heap, slotsUsed := s₂.slotsUsed } : State).setVm s₂.vm).setTop g).pushFrame (.throwing q) := by
      refine e3.trans ?_
      rw [hf₂, State.calling_eq h.top, State.setFrames_setFrames, State.pushFrame, State.frames_setTop _ hr', State.setTop_of_frames _ hr', State.setFrames_setFrames, hr]
      rfl
    have hsame : U.sameButNew ({ U with heap := s₂.heap, slotsUsed := s₂.slotsUsed } : State) L mc ms := by
      refine ⟨?_, q2, q3, q4, q5, q6⟩
      obtain ⟨t, ht, -⟩ := State.frames_cons hr
      show ({ U with heap := s₂.heap, slotsUsed := s₂.slotsUsed } : State) = { U.setFrames U.frames with heap := s₂.heap, slotsUsed := s₂.slotsUsed }
      rw [State.setFrames_self ht]
    subst hg
    refine Or.inr ⟨q, ⟨(({ U with heap := s₂.heap, slotsUsed := s₂.slotsUsed } : State).setVm s₂.vm), Ls ++ L, c0 + mc, s0 + ms⟩,
      ⟨X.admits, X.cas, X.clock, X.frames, X.room, X.hears, X.method, X.code, (X.here.setHeapUsed s₂.heap s₂.slotsUsed).setVm hW'.alike, X.tail, State.WarmedH.trans X.warmed hW', X.limits, X.bytes, X.same.trans (hsame.setVm s.vm)⟩,
      ⟨g, mk, s₂, L, E, ce, rfl, rfl, hx, hce, hcv, hcl, rfl, hL, rfl, rfl⟩, ?_⟩
    show Steps p.tables e below _ (((({ U with heap := s₂.heap, slotsUsed := s₂.slotsUsed } : State).setVm s₂.vm).setTop g).pushFrame (.throwing q))
    rw [← hs₂]
    exact hsteps
end Payer
section Calls
variable {p : Program} {l : Launch} {e : Env} {R : Room} {s : State} {m : MethodId} {args : Array Value} {below : List Frame} {meth : Method} {c : Code} {T : State} {locs : List Loc} {cells slots : Nat}
theorem vx_callV (X : Stand p l e R s m args below meth c T locs cells slots) (hexec : p.tables.exec = Jvm.exec) {own C : String} {index : Nat} {y : MethodName} {bytes : ByteArray} {maxL : Nat} {ret : Option FieldType}
    (hown : s.vm.findClass own = some m.cls) (hlink : (Cond.methodLink own index y).before args s = true) (hinst : (Cond.instanceMethod y).before args s = true) (hsel : (Cond.selects C y y).before args s = true)
    (hcode : (Cond.code y bytes maxL ret).before args s = true) (hy : y.cls ≠ "java/lang/invoke/MethodHandle" ∧ y.cls ≠ "java/lang/invoke/VarHandle")
    {W9 : Nat} {Pre : Pt → Array Value → Prop} {Post : Pt → Array Value → Option Value → Pt → Prop} {PostX : Pt → Array Value → Addr → Pt → Prop} (hK : vx_Back l R p e below s args y 3 W9 Pre Post PostX)
    {b : Addr} {cellB : Cell} (hcell : T.heap[b]? = some cellB) (hobj : cellB.vm.isStatics = false) (hcls : s.vm.findClass C = some cellB.cls)
    {g : JFrame} (hg : g.method = m) (hsize : g.locals.size = c.maxLocals) {argsL rest : List Value} (hlen : ∀ sig, parseMethodDescriptor y.desc = some sig → argsL.length = sig.parameters.length)
    (hstack : g.stack = argsL.reverse ++ .ref b :: rest) (hW : 2 * g.monitorRoom + (rest.map fun v => v.category).sum ≤ W9) (hdg : decode c.code g.pc = .ok (.invokevirtual index, 3))
    (hpre : ∀ vm₁, s.WarmedH vm₁ → Pre ⟨T.setVm vm₁, locs, cells, slots⟩ (Value.ref b :: argsL).toArray) :
    (∃ (v : Option Value) (vm₁ : Vm) (B : Pt), s.WarmedH vm₁ ∧ Stand p l e R s m args below meth c B.U B.locs B.cells B.slots ∧ Post ⟨T.setVm vm₁, locs, cells, slots⟩ (Value.ref b :: argsL).toArray v B ∧
      ∀ target, Steps p.tables e below (B.U.setTop { g with pc := g.pc + 3, stack := v.toList ++ rest }) target → Steps p.tables e below (T.setTop g) target) ∨
    (∃ (q : Addr) (vm₁ : Vm) (B : Pt), s.WarmedH vm₁ ∧ Stand p l e R s m args below meth c B.U B.locs B.cells B.slots ∧ PostX ⟨T.setVm vm₁, locs, cells, slots⟩ (Value.ref b :: argsL).toArray q B ∧
      Steps p.tables e below (T.setTop g) ((B.U.setTop { g with stack := rest }).pushFrame (.throwing q))) := by
  obtain ⟨mk, methM, hnamed, hmethM, hstM, habM⟩ := Cond.instanceMethod_spec hinst
  obtain ⟨methM', cM, hmethM', -, -, -, -, -, -, hsigM⟩ := Cond.code_spec hnamed hcode
  cases hmethM.symm.trans hmethM'
  obtain ⟨c2, r2, m2, q1, q2, q3, q4, kP, hkP, hkPi⟩ := Cond.selects_spec hsel
  cases hcls.symm.trans q1
  cases (State.methodFound?_of_named hnamed hy).symm.trans q2
  cases hnamed.symm.trans q3
  have hselP : selectMethod e.platform s.vm cellB.cls mk = .method mk := by rw [Launch.admits_selectMethod X.admits]; exact q4
  obtain ⟨vm₁, X₁, hstep₁⟩ := X.invokevirtual hexec hown hlink hnamed hmethM hstM hkP hkPi hy (a := b) (cell := cellB) hcell
    (fun z h => by rw [h] at hobj; cases hobj) hselP hmethM habM hkP hkPi (g := g) hg (argsL := argsL) (rest := rest) (hlen _ hsigM) hstack hdg
  rcases hK m meth c ⟨T.setVm vm₁, locs, cells, slots⟩ { g with stack := rest } (.invokevirtual index) mk (Value.ref b :: argsL).toArray X₁ hg hsize hdg hW (X₁.named hnamed) (hpre vm₁ X₁.warmed) with ⟨v, B, X', hpost, hsteps⟩ | ⟨q, B, X', hpost, hsteps⟩
  · exact Or.inl ⟨v, vm₁, B, X₁.warmed, X', hpost, fun target h => hstep₁ _ fun acts => by rw [doInvoke_state]; exact hsteps.trans h⟩
  · exact Or.inr ⟨q, vm₁, B, X₁.warmed, X', hpost, hstep₁ _ fun acts => by rw [doInvoke_state]; exact hsteps⟩
theorem vx_callS (X : Stand p l e R s m args below meth c T locs cells slots) (hexec : p.tables.exec = Jvm.exec) {own : String} {index : Nat} {y : MethodName} {bytes : ByteArray} {maxL : Nat} {ret : Option FieldType}
    (hown : s.vm.findClass own = some m.cls) (hlink : (Cond.methodLink own index y).before args s = true) (hstat : (Cond.static y).before args s = true) (hinit : (Cond.initialized y.cls).before args s = true)
    (hcode : (Cond.code y bytes maxL ret).before args s = true) (hy : y.cls ≠ "java/lang/invoke/MethodHandle" ∧ y.cls ≠ "java/lang/invoke/VarHandle")
    {W9 : Nat} {Pre : Pt → Array Value → Prop} {Post : Pt → Array Value → Option Value → Pt → Prop} {PostX : Pt → Array Value → Addr → Pt → Prop} (hK : vx_Back l R p e below s args y 3 W9 Pre Post PostX)
    {g : JFrame} (hg : g.method = m) (hsize : g.locals.size = c.maxLocals) {argsL rest : List Value} (hlen : ∀ sig, parseMethodDescriptor y.desc = some sig → argsL.length = sig.parameters.length)
    (hstack : g.stack = argsL.reverse ++ rest) (hW : 2 * g.monitorRoom + (rest.map fun v => v.category).sum ≤ W9) (hdg : decode c.code g.pc = .ok (.invokestatic index, 3))
    (hpre : ∀ vm₁, s.WarmedH vm₁ → Pre ⟨T.setVm vm₁, locs, cells, slots⟩ argsL.toArray) :
    (∃ (v : Option Value) (vm₁ : Vm) (B : Pt), s.WarmedH vm₁ ∧ Stand p l e R s m args below meth c B.U B.locs B.cells B.slots ∧ Post ⟨T.setVm vm₁, locs, cells, slots⟩ argsL.toArray v B ∧
      ∀ target, Steps p.tables e below (B.U.setTop { g with pc := g.pc + 3, stack := v.toList ++ rest }) target → Steps p.tables e below (T.setTop g) target) ∨
    (∃ (q : Addr) (vm₁ : Vm) (B : Pt), s.WarmedH vm₁ ∧ Stand p l e R s m args below meth c B.U B.locs B.cells B.slots ∧ PostX ⟨T.setVm vm₁, locs, cells, slots⟩ argsL.toArray q B ∧
      Steps p.tables e below (T.setTop g) ((B.U.setTop { g with stack := rest }).pushFrame (.throwing q))) := by
  obtain ⟨mk, hnamed⟩ := Cond.code_named hcode
  obtain ⟨methM, cM, hmethM, -, -, -, -, -, -, hsigM⟩ := Cond.code_spec hnamed hcode
  have hstatic : methM.isStatic = true := Cond.static_spec hnamed hmethM hstat
  obtain ⟨kP, hkP, -⟩ := className_of_methodNamed hnamed
  have hinitP : kP.init = .initialized := Cond.initialized_spec (findClass_of_methodNamed hnamed) hkP hinit
  obtain ⟨vm₁, X₁, hstep₁⟩ := X.invokestatic hexec hown hlink hnamed hmethM hstatic hkP hinitP hy (g := g) hg (argsL := argsL) (rest := rest) (hlen _ hsigM) hstack hdg
  rcases hK m meth c ⟨T.setVm vm₁, locs, cells, slots⟩ { g with stack := rest } (.invokestatic index) mk argsL.toArray X₁ hg hsize hdg hW (X₁.named hnamed) (hpre vm₁ X₁.warmed) with ⟨v, B, X', hpost, hsteps⟩ | ⟨q, B, X', hpost, hsteps⟩
  · exact Or.inl ⟨v, vm₁, B, X₁.warmed, X', hpost, fun target h => hstep₁ _ fun acts => by rw [doInvoke_state]; exact hsteps.trans h⟩
  · exact Or.inr ⟨q, vm₁, B, X₁.warmed, X', hpost, hstep₁ _ fun acts => by rw [doInvoke_state]; exact hsteps⟩
end Calls
theorem vx_cls {s : State} {T : State} {vm₁ : Vm} {E : String} {k : ClassId} (hW : s.WarmedH vm₁) (h : (T.setVm vm₁).vm.findClass E = some k) : s.vm.findClass E = some k := by
  have h1 : vm₁.findClass E = some k := h
  rw [hW.alike.findClass] at h1
  exact h1
/-- the method's frame g, with q thrown over it -/
def vx_W (p : Program) (l : Launch) (e : Env) (R : Room) (s : State) (m : MethodId) (args : Array Value) (below : List Frame) (meth : Method) (c : Code) (H : Heap) (locs : List Loc) (cells slots : Nat) (Q : State → Prop) (g : JFrame) (q : Addr) : Prop :=
  ∀ T : State, T.heap = H → Stand p l e R s m args below meth c T locs cells slots → ∃ t, Steps p.tables e below ((T.setTop g).pushFrame (.throwing q)) t ∧ Q t
def vx_Run (p : Program) (l : Launch) (e : Env) (R : Room) (s : State) (m : MethodId) (args : Array Value) (below : List Frame) (meth : Method) (c : Code) (H : Heap) (locs : List Loc) (cells slots mc ms : Nat) (g : JFrame) (rest : List Value) (Qa : State → Outcome → State → Prop) (XC : String → State → State → Prop) (free : Addr → Prop) : Prop :=
  ∀ T : State, T.heap = H → Stand p l e R s m args below meth c T locs cells slots →
    (∃ (v : Option Value) (st₀ t T' : State) (L : List Loc), st₀.heap = H ∧ Stand p l e R s m args below meth c T' (locs ++ L) (cells + mc) (slots + ms) ∧ (∀ q ∈ L, free q.base) ∧ T'.heap = t.heap ∧ T'.vm = t.vm ∧ Qa st₀ (.returned v) t ∧
      Goes p e below T g T' { g with pc := g.pc + 3, stack := v.toList ++ rest }) ∨
    (∃ (q : Addr) (st₀ t T' : State) (L : List Loc) (E : String) (ce : Cell), st₀.heap = H ∧ Stand p l e R s m args below meth c T' (locs ++ L) (cells + mc) (slots + ms) ∧ (∀ z ∈ L, free z.base) ∧ T'.heap = t.heap ∧ T'.vm = t.vm ∧ XC E st₀ t ∧ t.heap[q]? = some ce ∧ ce.vm = .none ∧ s.vm.findClass E = some ce.cls ∧
      Steps p.tables e below (T.setTop g) ((T'.setTop { g with stack := rest }).pushFrame (.throwing q)))
def vx_X {S : Type} (px : S → Prop) (B : String → S → State → Prop) (A : Nat → Prop) : String → State → State → Prop := fun E st t => ∃ u : S, px u ∧ B E u t ∧ va_F A st t
section Runs
variable {p : Program} {l : Launch} {e : Env} {R : Room} {s : State} {m : MethodId} {args : Array Value} {below : List Frame} {meth : Method} {c : Code} {H : Heap} {locs : List Loc} {cells slots : Nat}
variable {y : MethodName} {bytes cc : ByteArray} {maxL nL mc ms n index : Nat} {ret : Option FieldType} {ws : List Cond} {rm : Room} {Pc : Array Value → State → Prop} {Qc : Array Value → State → Outcome → State → Prop} {XC : String → State → State → Prop} {free : Addr → Prop} {Ts : List Cond} {own C : String} {b : Addr} {As rest : List Value} {g : JFrame}
theorem vx_callBack (cb : CallB R s args own index y bytes maxL ret ws rm mc ms n) (hM : vx_Met l y ws rm Pc Qc XC mc ms free) (hbl : FrameBlind Pc) : vx_Back l R p e below s args y 3 8 (PreOf R mc ms Pc) (PostOf Qc mc ms free) (vx_Post XC mc ms free) := by
  obtain ⟨hrc, hrs, hfr, hlo, hws, hcw, -, hini, -⟩ := cb
  exact vx_back (bytes := bytes) (maxL := maxL) (ret := ret) hM hbl hrc hrs hfr hlo hws hcw (fun a' U hW => word_at hW (Or.inl (by first | rfl | simp [Cond.onTables, Cond.keeps, Cond.steady])) hini)
theorem vx_runV (S : CallFix p m c cc nL s args Ts own) (hM : vx_Met l y ws rm Pc Qc XC mc ms free) (cw : CallW R s args own C index y bytes maxL ret ws rm mc ms n) (hp : PreV s H C b Pc As)
    (hg : g.method = m) (hn : As.length = n) (hsize : g.locals.size = nL) (hstack : g.stack = As.reverse ++ .ref b :: rest) (hW : 2 * g.monitorRoom + (rest.map fun v => v.category).sum ≤ 8) (hdg : decode cc g.pc = .ok (.invokevirtual index, 3)) (hf : cells + mc ≤ R.cells ∧ slots + ms ≤ R.slots) :
    vx_Run p l e R s m args below meth c H locs cells slots mc ms g rest (Qc (Value.ref b :: As).toArray) XC free := by
  have hK : vx_Back l R p e below s args y 3 8 (PreOf R mc ms Pc) (PostOf Qc mc ms free) (vx_Post XC mc ms free) := vx_callBack cw.1 hM hp.1
  obtain ⟨⟨-, -, -, -, -, -, hcode, -, hy, hlen, hl⟩, hin, hse⟩ := cw
  obtain ⟨hx, hb, hml, ho, -⟩ := S
  obtain ⟨-, ⟨cellB, hcB, hoB, hclB⟩, hPc⟩ := hp
  intro T hT X
  rcases vx_callV X hx (C := C) (bytes := bytes) (maxL := maxL) (ret := ret) ho hl hin hse hcode hy hK (by rw [hT]; exact hcB) hoB hclB hg (hsize.trans hml.symm) (argsL := As) (rest := rest) (fun sig h => hn.trans (hlen sig h)) hstack hW (by rw [hb]; exact hdg)
    (fun vm₁ hW₁ => ⟨hf.1, hf.2, hPc (T.setVm vm₁) hT hW₁⟩) with ⟨v, vm₁, ⟨U', l2, c2, s2⟩, hW₁, X', ⟨g', mk, t, L, e1, e2, hq, h1, hL, h2, h3⟩, st⟩ | ⟨q, vm₁, ⟨U', l2, c2, s2⟩, hW₁, X', ⟨g', mk, t, L, E, ce, e1, e2, hq, hce, hcv, hcl, h1, hL, h2, h3⟩, st⟩
  · dsimp only [Pt.U, Pt.locs, Pt.cells, Pt.slots] at X' e1 e2 h1 h2 h3 st
    subst h1; subst h2; subst h3
    exact Or.inl ⟨v, (T.setVm vm₁).calling g' mk (Value.ref b :: As).toArray, t, U', L, hT, X', hL, e1, e2, hq, st⟩
  · dsimp only [Pt.U, Pt.locs, Pt.cells, Pt.slots] at X' e1 e2 h1 h2 h3 st hcl
    subst h1; subst h2; subst h3
    exact Or.inr ⟨q, (T.setVm vm₁).calling g' mk (Value.ref b :: As).toArray, t, U', L, E, ce, hT, X', hL, e1, e2, hq, hce, hcv, vx_cls hW₁ hcl, st⟩
theorem vx_runS (S : CallFix p m c cc nL s args Ts own) (hM : vx_Met l y ws rm Pc Qc XC mc ms free) (cw : CallB R s args own index y bytes maxL ret ws rm mc ms n ∧ (Cond.static y).before args s = true) (hp : PreS s H Pc As)
    (hg : g.method = m) (hn : As.length = n) (hsize : g.locals.size = nL) (hstack : g.stack = As.reverse ++ rest) (hW : 2 * g.monitorRoom + (rest.map fun v => v.category).sum ≤ 8) (hdg : decode cc g.pc = .ok (.invokestatic index, 3)) (hf : cells + mc ≤ R.cells ∧ slots + ms ≤ R.slots) :
    vx_Run p l e R s m args below meth c H locs cells slots mc ms g rest (Qc As.toArray) XC free := by
  have hK : vx_Back l R p e below s args y 3 8 (PreOf R mc ms Pc) (PostOf Qc mc ms free) (vx_Post XC mc ms free) := vx_callBack cw.1 hM hp.1
  obtain ⟨⟨-, -, -, -, -, -, hcode, hini, hy, hlen, hl⟩, hstt⟩ := cw
  obtain ⟨hx, hb, hml, ho, -⟩ := S
  intro T hT X
  rcases vx_callS X hx (bytes := bytes) (maxL := maxL) (ret := ret) ho hl hstt hini hcode hy hK hg (hsize.trans hml.symm) (argsL := As) (rest := rest) (fun sig h => hn.trans (hlen sig h)) hstack hW (by rw [hb]; exact hdg)
    (fun vm₁ hW₁ => ⟨hf.1, hf.2, hp.2 (T.setVm vm₁) hT hW₁⟩) with ⟨v, vm₁, ⟨U', l2, c2, s2⟩, hW₁, X', ⟨g', mk, t, L, e1, e2, hq, h1, hL, h2, h3⟩, st⟩ | ⟨q, vm₁, ⟨U', l2, c2, s2⟩, hW₁, X', ⟨g', mk, t, L, E, ce, e1, e2, hq, hce, hcv, hcl, h1, hL, h2, h3⟩, st⟩
  · dsimp only [Pt.U, Pt.locs, Pt.cells, Pt.slots] at X' e1 e2 h1 h2 h3 st
    subst h1; subst h2; subst h3
    exact Or.inl ⟨v, (T.setVm vm₁).calling g' mk As.toArray, t, U', L, hT, X', hL, e1, e2, hq, st⟩
  · dsimp only [Pt.U, Pt.locs, Pt.cells, Pt.slots] at X' e1 e2 h1 h2 h3 st hcl
    subst h1; subst h2; subst h3
    exact Or.inr ⟨q, (T.setVm vm₁).calling g' mk As.toArray, t, U', L, E, ce, hT, X', hL, e1, e2, hq, hce, hcv, vx_cls hW₁ hcl, st⟩
end Runs
section Rows
variable {p : Program} {l : Launch} {e : Env} {R : Room} {s : State} {m : MethodId} {args : Array Value} {below : List Frame} {meth : Method} {c : Code} {H : Heap} {locs : List Loc} {cells slots : Nat} {Q : State → Prop}
variable {mc ms : Nat} {free : Addr → Prop} {A0 A1 : Nat → Prop} {H0 : Heap} {a : Array Value} {pc : Nat} {ls : Array Slot} {st0 rest : List Value}
theorem vx_keep {st₀ t T' : State} {L : List Loc} (h0 : st₀.heap = H) (e1 : T'.heap = t.heap) (hS : va_S A0 H0 H locs) (hA : ∀ q, q < H.size → A1 q → A0 q) (hf : ∀ q, free q → A0 q) (hL : ∀ q ∈ L, free q.base) (hF : va_F A1 st₀ t) :
    H.size ≤ T'.heap.size ∧ (∀ q : Nat, q < H.size → ¬ A1 q → T'.heap[q]? = H[q]?) ∧ va_S A0 H0 T'.heap (locs ++ L) := by
  obtain ⟨hz, hk⟩ := hF
  rw [h0] at hz hk
  exact ⟨by rw [e1]; exact hz, fun q h1 h2 => by rw [e1]; exact hk q h1 h2,
    ⟨Nat.le_trans hS.1 (by rw [e1]; exact hz), fun q h1 h2 => by rw [e1, hk q (Nat.lt_of_lt_of_le h1 hS.1) (fun z => h2 (hA q (Nat.lt_of_lt_of_le h1 hS.1) z))]; exact hS.2.1 q h1 h2, fun q hq => by
      rcases List.mem_append.mp hq with h | h
      · exact hS.2.2 q h
      · exact hf _ (hL q h)⟩⟩
theorem vx_calli {S SX : Type} {post : Int32 → S → Prop} {px : SX → Prop} {B : S → State → Prop} {BX : String → SX → State → Prop} {AX : Nat → Prop} (hr : vx_Run p l e R s m args below meth c H locs cells slots mc ms (F0 m pc ls st0) rest (va_Qi post B A1 a) (vx_X px BX AX) free) (hS : va_S A0 H0 H locs) (hA : ∀ q, q < H.size → A1 q → A0 q) (hf : ∀ q, free q → A0 q) (hAX : ∀ q, q < H.size → AX q → A0 q)
    (kx : ∀ (E : String) (ce : Cell) (q9 : Addr) (u : SX) (t : State) (H1 : Heap) (locs1 : List Loc), t.heap = H1 → s.vm.Alike t.vm → px u → BX E u t → H.size ≤ H1.size → (∀ q : Nat, q < H.size → ¬ AX q → H1[q]? = H[q]?) → va_S A0 H0 H1 locs1 → H1[q9]? = some ce → ce.vm = .none → s.vm.findClass E = some ce.cls → vx_W p l e R s m args below meth c H1 locs1 (cells + mc) (slots + ms) Q (F0 m pc ls rest) q9)
    (kk : ∀ (r : Int32) (u : S) (t : State) (H1 : Heap) (locs1 : List Loc), t.heap = H1 → s.vm.Alike t.vm → post r u → B u t → H.size ≤ H1.size → (∀ q : Nat, q < H.size → ¬ A1 q → H1[q]? = H[q]?) → va_S A0 H0 H1 locs1 → W p l e R s m args below meth c H1 locs1 (cells + mc) (slots + ms) Q (F0 m (pc + 3) ls (.int r :: rest))) : W p l e R s m args below meth c H locs cells slots Q (F0 m pc ls st0) := by
  intro T hT X
  rcases hr T hT X with ⟨v, st₀, t, T', L, h0, X', hL, e1, e2, ⟨⟨r, u, hv, hp, hb⟩, hF⟩, st⟩ | ⟨q, st₀, t, T', L, E, ce, h0, X', hL, e1, e2, ⟨u, hp, hb, hF⟩, hce, hcv, hcl, st⟩
  · cases hv
    obtain ⟨k1, k2, k3⟩ := vx_keep h0 e1 hS hA hf hL hF
    obtain ⟨t2, a1, b1⟩ := kk r u t T'.heap (locs ++ L) e1.symm (by rw [← e2]; exact X'.warmed.alike) hp hb k1 k2 k3 T' rfl X'
    exact ⟨t2, st t2 a1, b1⟩
  · obtain ⟨k1, k2, k3⟩ := vx_keep h0 e1 hS hAX hf hL hF
    obtain ⟨t2, a1, b1⟩ := kx E ce q u t T'.heap (locs ++ L) e1.symm (by rw [← e2]; exact X'.warmed.alike) hp hb k1 k2 k3 (by rw [e1]; exact hce) hcv hcl T' rfl X'
    exact ⟨t2, st.trans a1, b1⟩
theorem vx_calll {S SX : Type} {post : Int64 → S → Prop} {px : SX → Prop} {B : S → State → Prop} {BX : String → SX → State → Prop} {AX : Nat → Prop} (hr : vx_Run p l e R s m args below meth c H locs cells slots mc ms (F0 m pc ls st0) rest (va_Ql post B A1 a) (vx_X px BX AX) free) (hS : va_S A0 H0 H locs) (hA : ∀ q, q < H.size → A1 q → A0 q) (hf : ∀ q, free q → A0 q) (hAX : ∀ q, q < H.size → AX q → A0 q)
    (kx : ∀ (E : String) (ce : Cell) (q9 : Addr) (u : SX) (t : State) (H1 : Heap) (locs1 : List Loc), t.heap = H1 → s.vm.Alike t.vm → px u → BX E u t → H.size ≤ H1.size → (∀ q : Nat, q < H.size → ¬ AX q → H1[q]? = H[q]?) → va_S A0 H0 H1 locs1 → H1[q9]? = some ce → ce.vm = .none → s.vm.findClass E = some ce.cls → vx_W p l e R s m args below meth c H1 locs1 (cells + mc) (slots + ms) Q (F0 m pc ls rest) q9)
    (kk : ∀ (r : Int64) (u : S) (t : State) (H1 : Heap) (locs1 : List Loc), t.heap = H1 → s.vm.Alike t.vm → post r u → B u t → H.size ≤ H1.size → (∀ q : Nat, q < H.size → ¬ A1 q → H1[q]? = H[q]?) → va_S A0 H0 H1 locs1 → W p l e R s m args below meth c H1 locs1 (cells + mc) (slots + ms) Q (F0 m (pc + 3) ls (.long r :: rest))) : W p l e R s m args below meth c H locs cells slots Q (F0 m pc ls st0) := by
  intro T hT X
  rcases hr T hT X with ⟨v, st₀, t, T', L, h0, X', hL, e1, e2, ⟨⟨r, u, hv, hp, hb⟩, hF⟩, st⟩ | ⟨q, st₀, t, T', L, E, ce, h0, X', hL, e1, e2, ⟨u, hp, hb, hF⟩, hce, hcv, hcl, st⟩
  · cases hv
    obtain ⟨k1, k2, k3⟩ := vx_keep h0 e1 hS hA hf hL hF
    obtain ⟨t2, a1, b1⟩ := kk r u t T'.heap (locs ++ L) e1.symm (by rw [← e2]; exact X'.warmed.alike) hp hb k1 k2 k3 T' rfl X'
    exact ⟨t2, st t2 a1, b1⟩
  · obtain ⟨k1, k2, k3⟩ := vx_keep h0 e1 hS hAX hf hL hF
    obtain ⟨t2, a1, b1⟩ := kx E ce q u t T'.heap (locs ++ L) e1.symm (by rw [← e2]; exact X'.warmed.alike) hp hb k1 k2 k3 (by rw [e1]; exact hce) hcv hcl T' rfl X'
    exact ⟨t2, st.trans a1, b1⟩
theorem vx_callf {S SX : Type} {post : UInt32 → S → Prop} {px : SX → Prop} {B : S → State → Prop} {BX : String → SX → State → Prop} {AX : Nat → Prop} (hr : vx_Run p l e R s m args below meth c H locs cells slots mc ms (F0 m pc ls st0) rest (va_Qf post B A1 a) (vx_X px BX AX) free) (hS : va_S A0 H0 H locs) (hA : ∀ q, q < H.size → A1 q → A0 q) (hf : ∀ q, free q → A0 q) (hAX : ∀ q, q < H.size → AX q → A0 q)
    (kx : ∀ (E : String) (ce : Cell) (q9 : Addr) (u : SX) (t : State) (H1 : Heap) (locs1 : List Loc), t.heap = H1 → s.vm.Alike t.vm → px u → BX E u t → H.size ≤ H1.size → (∀ q : Nat, q < H.size → ¬ AX q → H1[q]? = H[q]?) → va_S A0 H0 H1 locs1 → H1[q9]? = some ce → ce.vm = .none → s.vm.findClass E = some ce.cls → vx_W p l e R s m args below meth c H1 locs1 (cells + mc) (slots + ms) Q (F0 m pc ls rest) q9)
    (kk : ∀ (r : UInt32) (u : S) (t : State) (H1 : Heap) (locs1 : List Loc), t.heap = H1 → s.vm.Alike t.vm → post r u → B u t → H.size ≤ H1.size → (∀ q : Nat, q < H.size → ¬ A1 q → H1[q]? = H[q]?) → va_S A0 H0 H1 locs1 → W p l e R s m args below meth c H1 locs1 (cells + mc) (slots + ms) Q (F0 m (pc + 3) ls (.float r :: rest))) : W p l e R s m args below meth c H locs cells slots Q (F0 m pc ls st0) := by
  intro T hT X
  rcases hr T hT X with ⟨v, st₀, t, T', L, h0, X', hL, e1, e2, ⟨⟨r, u, hv, hp, hb⟩, hF⟩, st⟩ | ⟨q, st₀, t, T', L, E, ce, h0, X', hL, e1, e2, ⟨u, hp, hb, hF⟩, hce, hcv, hcl, st⟩
  · cases hv
    obtain ⟨k1, k2, k3⟩ := vx_keep h0 e1 hS hA hf hL hF
    obtain ⟨t2, a1, b1⟩ := kk r u t T'.heap (locs ++ L) e1.symm (by rw [← e2]; exact X'.warmed.alike) hp hb k1 k2 k3 T' rfl X'
    exact ⟨t2, st t2 a1, b1⟩
  · obtain ⟨k1, k2, k3⟩ := vx_keep h0 e1 hS hAX hf hL hF
    obtain ⟨t2, a1, b1⟩ := kx E ce q u t T'.heap (locs ++ L) e1.symm (by rw [← e2]; exact X'.warmed.alike) hp hb k1 k2 k3 (by rw [e1]; exact hce) hcv hcl T' rfl X'
    exact ⟨t2, st.trans a1, b1⟩
theorem vx_calld {S SX : Type} {post : UInt64 → S → Prop} {px : SX → Prop} {B : S → State → Prop} {BX : String → SX → State → Prop} {AX : Nat → Prop} (hr : vx_Run p l e R s m args below meth c H locs cells slots mc ms (F0 m pc ls st0) rest (va_Qd post B A1 a) (vx_X px BX AX) free) (hS : va_S A0 H0 H locs) (hA : ∀ q, q < H.size → A1 q → A0 q) (hf : ∀ q, free q → A0 q) (hAX : ∀ q, q < H.size → AX q → A0 q)
    (kx : ∀ (E : String) (ce : Cell) (q9 : Addr) (u : SX) (t : State) (H1 : Heap) (locs1 : List Loc), t.heap = H1 → s.vm.Alike t.vm → px u → BX E u t → H.size ≤ H1.size → (∀ q : Nat, q < H.size → ¬ AX q → H1[q]? = H[q]?) → va_S A0 H0 H1 locs1 → H1[q9]? = some ce → ce.vm = .none → s.vm.findClass E = some ce.cls → vx_W p l e R s m args below meth c H1 locs1 (cells + mc) (slots + ms) Q (F0 m pc ls rest) q9)
    (kk : ∀ (r : UInt64) (u : S) (t : State) (H1 : Heap) (locs1 : List Loc), t.heap = H1 → s.vm.Alike t.vm → post r u → B u t → H.size ≤ H1.size → (∀ q : Nat, q < H.size → ¬ A1 q → H1[q]? = H[q]?) → va_S A0 H0 H1 locs1 → W p l e R s m args below meth c H1 locs1 (cells + mc) (slots + ms) Q (F0 m (pc + 3) ls (.double r :: rest))) : W p l e R s m args below meth c H locs cells slots Q (F0 m pc ls st0) := by
  intro T hT X
  rcases hr T hT X with ⟨v, st₀, t, T', L, h0, X', hL, e1, e2, ⟨⟨r, u, hv, hp, hb⟩, hF⟩, st⟩ | ⟨q, st₀, t, T', L, E, ce, h0, X', hL, e1, e2, ⟨u, hp, hb, hF⟩, hce, hcv, hcl, st⟩
  · cases hv
    obtain ⟨k1, k2, k3⟩ := vx_keep h0 e1 hS hA hf hL hF
    obtain ⟨t2, a1, b1⟩ := kk r u t T'.heap (locs ++ L) e1.symm (by rw [← e2]; exact X'.warmed.alike) hp hb k1 k2 k3 T' rfl X'
    exact ⟨t2, st t2 a1, b1⟩
  · obtain ⟨k1, k2, k3⟩ := vx_keep h0 e1 hS hAX hf hL hF
    obtain ⟨t2, a1, b1⟩ := kx E ce q u t T'.heap (locs ++ L) e1.symm (by rw [← e2]; exact X'.warmed.alike) hp hb k1 k2 k3 (by rw [e1]; exact hce) hcv hcl T' rfl X'
    exact ⟨t2, st.trans a1, b1⟩
theorem vx_callv {S SX : Type} {post : S → Prop} {px : SX → Prop} {B : S → State → Prop} {BX : String → SX → State → Prop} {AX : Nat → Prop} (hr : vx_Run p l e R s m args below meth c H locs cells slots mc ms (F0 m pc ls st0) rest (va_Qv post B A1 a) (vx_X px BX AX) free) (hS : va_S A0 H0 H locs) (hA : ∀ q, q < H.size → A1 q → A0 q) (hf : ∀ q, free q → A0 q) (hAX : ∀ q, q < H.size → AX q → A0 q)
    (kx : ∀ (E : String) (ce : Cell) (q9 : Addr) (u : SX) (t : State) (H1 : Heap) (locs1 : List Loc), t.heap = H1 → s.vm.Alike t.vm → px u → BX E u t → H.size ≤ H1.size → (∀ q : Nat, q < H.size → ¬ AX q → H1[q]? = H[q]?) → va_S A0 H0 H1 locs1 → H1[q9]? = some ce → ce.vm = .none → s.vm.findClass E = some ce.cls → vx_W p l e R s m args below meth c H1 locs1 (cells + mc) (slots + ms) Q (F0 m pc ls rest) q9)
    (kk : ∀ (u : S) (t : State) (H1 : Heap) (locs1 : List Loc), t.heap = H1 → s.vm.Alike t.vm → post u → B u t → H.size ≤ H1.size → (∀ q : Nat, q < H.size → ¬ A1 q → H1[q]? = H[q]?) → va_S A0 H0 H1 locs1 → W p l e R s m args below meth c H1 locs1 (cells + mc) (slots + ms) Q (F0 m (pc + 3) ls (rest))) : W p l e R s m args below meth c H locs cells slots Q (F0 m pc ls st0) := by
  intro T hT X
  rcases hr T hT X with ⟨v, st₀, t, T', L, h0, X', hL, e1, e2, ⟨⟨u, hv, hp, hb⟩, hF⟩, st⟩ | ⟨q, st₀, t, T', L, E, ce, h0, X', hL, e1, e2, ⟨u, hp, hb, hF⟩, hce, hcv, hcl, st⟩
  · cases hv
    obtain ⟨k1, k2, k3⟩ := vx_keep h0 e1 hS hA hf hL hF
    obtain ⟨t2, a1, b1⟩ := kk u t T'.heap (locs ++ L) e1.symm (by rw [← e2]; exact X'.warmed.alike) hp hb k1 k2 k3 T' rfl X'
    exact ⟨t2, st t2 a1, b1⟩
  · obtain ⟨k1, k2, k3⟩ := vx_keep h0 e1 hS hAX hf hL hF
    obtain ⟨t2, a1, b1⟩ := kx E ce q u t T'.heap (locs ++ L) e1.symm (by rw [← e2]; exact X'.warmed.alike) hp hb k1 k2 k3 (by rw [e1]; exact hce) hcv hcl T' rfl X'
    exact ⟨t2, st.trans a1, b1⟩
/-- caught by the row x of this method's table; the rows ahead don't take it -/
theorem vx_catch {own name : String} {E : String} {ce : Cell} {q : Addr} (hown : s.vm.findClass own = some m.cls) (pre : List ExceptionTableEntry) (x : ExceptionTableEntry) (suf : List ExceptionTableEntry) (hsplit : c.exceptionTable.toList = pre ++ x :: suf)
    (hpass : ∀ z ∈ pre, covers z pc = false ∨ (z.catchType ≠ 0 ∧ ∃ nm : String, (Cond.classLink own z.catchType nm).before args s = true ∧ va_Nc E nm s)) (hx : covers x pc = true) (h0 : x.catchType ≠ 0)
    (hlink : (Cond.classLink own x.catchType name).before args s = true) (hcast : (Cond.castable E name).before args s = true) (hcell : H[q]? = some ce) (hv : ce.vm = .none) (hcl : s.vm.findClass E = some ce.cls)
    (kk : W p l e R s m args below meth c H locs cells slots Q (F0 m x.handlerPc ls [.ref q])) : vx_W p l e R s m args below meth c H locs cells slots Q (F0 m pc ls rest) q := by
  intro T hT X
  have hpl : e.platform.magicAccessors = ({} : Platform).magicAccessors := by rw [X.admits.platform]
  obtain ⟨c3, c4, hc3, hc4, hasg⟩ := Cond.castable_spec hcast
  cases Option.some.inj (hc3.symm.trans hcl)
  obtain ⟨c5, hc5, hcl5⟩ := Cond.classLink_spec hown hlink e.platform hpl
  cases Option.some.inj (hc4.symm.trans hc5)
  obtain ⟨vm', X', st⟩ := X.thenCaughtThrough q (g := F0 m pc ls rest) rfl (Steps.refl _) (by rw [hT]; exact hcell) (by rw [hv]; rfl) (by obtain ⟨k9, h9, -⟩ := Vm.findClass_spec hcl; exact ⟨k9, h9⟩) pre x suf hsplit
    (fun z hz => by
      rcases hpass z hz with h | ⟨hz0, nm, hl1, hn1⟩
      · exact Or.inl h
      · obtain ⟨c6, hc6, hcl6⟩ := Cond.classLink_spec hown hl1 e.platform hpl
        obtain ⟨a8, b8, h1, h2, h3⟩ := hn1
        cases Option.some.inj (h1.symm.trans hcl)
        cases Option.some.inj (h2.symm.trans hc6)
        exact Or.inr ⟨hz0, _, hcl6, h3⟩) hx (Or.inr ⟨h0, c4, hcl5, hasg⟩)
  obtain ⟨t, a1, b1⟩ := kk (T.setVm vm') hT X'
  exact ⟨t, st.trans a1, b1⟩
end Rows
section Ends
variable {p : Program} {l : Launch} {e : Env} {R : Room} {s : State} {m : MethodId} {args : Array Value} {below : List Frame} {meth : Method} {c : Code} {H : Heap} {locs : List Loc} {cells slots : Nat} {Q : State → Prop}
variable {mc ms : Nat} {free : Addr → Prop} {A0 A1 : Nat → Prop} {H0 : Heap} {a : Array Value} {ls : Array Slot} {st0 rest : List Value}
variable {Qc : Array Value → State → Outcome → State → Prop} {XC : String → State → State → Prop}
/-- what a body that may throw owes at its end -/
def vx_MQ (below : List Frame) (Qc : Array Value → State → Outcome → State → Prop) (XC : String → State → State → Prop) (a : Array Value) (s : State) (mc ms : Nat) (free : Addr → Prop) : State → Prop := fun t =>
  ∃ o, t.status = .running ∧ Ended t below o ∧ vx_Q Qc XC mc ms free a s o t
theorem vx_ret {g : JFrame} {mc ms : Nat} (k : W p l e R s m args below meth c H locs cells slots (MQ below Qc args s mc ms free) g) : W p l e R s m args below meth c H locs cells slots (vx_MQ below Qc XC args s mc ms free) g := by
  intro T hT X
  obtain ⟨t, a1, o, b1, b2, b3, b4⟩ := k T hT X
  exact ⟨t, a1, o, b1, b2, Or.inl ⟨b3, b4⟩⟩
/-- not caught here: it goes on to the caller -/
theorem vx_widen {g : JFrame} {q : Addr} {k n : Nat} (h1 : cells ≤ k) (h2 : slots ≤ n) (kk : vx_W p l e R s m args below meth c H locs k n Q g q) : vx_W p l e R s m args below meth c H locs cells slots Q g q := fun T hT X => kk T hT (stand_widen X h1 h2)
theorem vx_out {pc : Nat} {E : String} {ce : Cell} {q : Addr} {mc ms : Nat} (hout : ∀ x ∈ c.exceptionTable.toList, covers x pc = false) (hlocks : meth.locks = false) (hcell : H[q]? = some ce) (hv : ce.vm = .none) (hcl : s.vm.findClass E = some ce.cls)
    (hx : ∀ t : State, t.heap = H → s.vm.Alike t.vm → XC E s t) (hf : ∀ z ∈ locs, free z.base) (hc : cells ≤ mc) (hs : slots ≤ ms) :
    vx_W p l e R s m args below meth c H locs cells slots (vx_MQ below Qc XC args s mc ms free) (F0 m pc ls rest) q := by
  intro T hT X
  obtain ⟨st1, hrun, hend, hW, hsm⟩ := X.leaveThrown q (g := F0 m pc ls rest) rfl rfl rfl hout hlocks
  have hcell9 : (T.setFrames (.throwing q :: below)).heap[q]? = some ce := by
    show T.heap[q]? = some ce
    rw [hT]; exact hcell
  exact ⟨_, st1, .threw q, hrun, hend, Or.inr ⟨q, rfl, E, ce, locs, hx _ hT hW.alike, hcell9, hv, hcl, hW, hsm.mono hc hs, hf⟩⟩
theorem vx_frame {U : State} {k n : Nat} (h : s.sameButNew ({ U with vm := s.vm } : State) locs k n) : s.heap.size ≤ U.heap.size ∧ ∀ q : Nat, q < s.heap.size → (∀ z ∈ locs, z.base ≠ q) → U.heap[q]? = s.heap[q]? := by
  obtain ⟨-, h2, -, -, -, h6⟩ := h
  refine ⟨h2, fun q hq hz => ?_⟩
  obtain ⟨c9, e1, e2, e3, e4⟩ := h6 q _ (Array.getElem?_eq_getElem hq)
  have hs : c9.slots = (s.heap[q]).slots := Array.ext_getElem? fun i => e4 i fun hm => hz _ hm rfl
  have h9 : c9 = s.heap[q] := by
    rw [hs] at e2
    exact e2
  have e5 : U.heap[q]? = some c9 := e1
  rw [e5, h9, Array.getElem?_eq_getElem hq]
/-- the words of a throw but the four that speak of the heap -/
def vx_no (w : Cond) : Bool := decide (w ≠ .isRef (.static Bundle.tN "UNASSIGNED_STACK" Bundle.steD)) && decide (w ≠ .isRef (.static Bundle.tN "SUPPRESSED_SENTINEL" Bundle.listD)) && decide (w ≠ .laysStatic Bundle.tN "UNASSIGNED_STACK" Bundle.steD) && decide (w ≠ .laysStatic Bundle.tN "SUPPRESSED_SENTINEL" Bundle.listD)
def vx_at0 (own : String) (ic : Nat) (X : String) (names : List String) : List Cond := (Bundle.ownAtoms0 own ic X names).filter vx_no
def vx_atS (own : String) (ic : Nat) (X : String) (names : List String) : List Cond := (Bundle.ownAtoms own ic X names).filter vx_no
/-- a word that the tables alone decide, or a good one -/
def vx_ot (w : Cond) : Bool := w.onTables || goodWord w
theorem vx_ot_at {args a' : Array Value} {s U : State} {w : Cond} (hW : s.WarmedH U.vm) (hvm : s.vm = U.vm) (hg : vx_ot w = true) (h : w.before args s = true) : w.before a' U = true := by
  simp only [vx_ot, Bool.or_eq_true] at hg
  rcases hg with hg | hg
  · exact va_tabs hg hvm h
  · exact word_at hW (good_of_word hg) h
/-- a list's words: the good ones out of the method's own list, the others by premises of their own -/
theorem vx_hat {args : Array Value} {s : State} {L B : List Cond} (h1 : ∀ w ∈ L.filter goodWord, w.before args s = true) (h2 : ∀ w ∈ L.filter (fun w => !goodWord w), w ∈ B) (h3 : ∀ w ∈ B, w.before args s = true) : ∀ w ∈ L, w.before args s = true := by
  intro w hw
  by_cases g : goodWord w = true
  · exact h1 w (List.mem_filter.mpr ⟨hw, g⟩)
  · refine h3 w (h2 w (List.mem_filter.mpr ⟨hw, ?_⟩))
    show (!goodWord w) = true
    cases hgw : goodWord w
    · rfl
    · exact absurd hgw g
theorem vx_c {args : Array Value} {s : State} {w : Cond} {B : List Cond} (h : w.before args s = true) (t : ∀ w ∈ B, w.before args s = true) : ∀ w' ∈ w :: B, w'.before args s = true := fun w' h' => (List.mem_cons.mp h').elim (fun e => by rw [e]; exact h) (t w')
theorem vx_n {args : Array Value} {s : State} : ∀ w ∈ ([] : List Cond), w.before args s = true := fun _ h => nomatch h
theorem vx_own {args : Array Value} {s : State} {L : List Cond} (h1 : ∀ w ∈ L.filter vx_no, w.before args s = true)
    (hU : (Cond.isRef (.static Bundle.tN "UNASSIGNED_STACK" Bundle.steD)).before args s = true) (hN : (Cond.isRef (.static Bundle.tN "SUPPRESSED_SENTINEL" Bundle.listD)).before args s = true)
    (lU : (Cond.laysStatic Bundle.tN "UNASSIGNED_STACK" Bundle.steD).before args s = true) (lN : (Cond.laysStatic Bundle.tN "SUPPRESSED_SENTINEL" Bundle.listD).before args s = true) : ∀ w ∈ L, w.before args s = true := by
  intro w hw
  by_cases e1 : w = .isRef (.static Bundle.tN "UNASSIGNED_STACK" Bundle.steD)
  · rw [e1]; exact hU
  · by_cases e2 : w = .isRef (.static Bundle.tN "SUPPRESSED_SENTINEL" Bundle.listD)
    · rw [e2]; exact hN
    · by_cases e3 : w = .laysStatic Bundle.tN "UNASSIGNED_STACK" Bundle.steD
      · rw [e3]; exact lU
      · by_cases e4 : w = .laysStatic Bundle.tN "SUPPRESSED_SENTINEL" Bundle.listD
        · rw [e4]; exact lN
        · exact h1 w (List.mem_filter.mpr ⟨hw, by unfold vx_no; rw [decide_eq_true e1, decide_eq_true e2, decide_eq_true e3, decide_eq_true e4]; rfl⟩)
/-- where a static field lies, its class's statics cell in H -/
def vx_L (C n d : String) (A : Nat → Prop) (U : State) (H : Heap) : Prop := ∃ (c : ClassId) (k : Class) (i : Nat) (f : Field) (a : Nat) (cell : Cell), U.vm.findClass C = some c ∧ U.fieldFound? C n d = some (c, k, i, f) ∧ f.isStatic = true ∧ k.statics = some a ∧ H[a]? = some cell ∧ cell.vm.isStatics = true ∧ cell.cls = c ∧ f.slot < cell.slots.size ∧ k.staticTypes[f.slot]? = some f.type ∧ ¬ A a
theorem vx_L.moved {C n d : String} {A : Nat → Prop} {u U : State} {H : Heap} (hvm : u.vm.Alike U.vm) (h : vx_L C n d A u H) : vx_L C n d A U H := by
  obtain ⟨c, k, i, f, a, cell, h1, h2, h3, h4, h5, h6, h7, h8, h9, h10⟩ := h
  obtain ⟨k', hi', he⟩ := State.fieldFound?_setVm hvm h2
  exact ⟨c, k', i, f, a, cell, by rw [hvm.findClass]; exact h1, hi', h3, by rw [he]; exact h4, h5, h6, h7, h8, by rw [he]; exact h9, h10⟩
theorem vx_L.kept {C n d : String} {A : Nat → Prop} {U : State} {H H1 : Heap} (h : vx_L C n d A U H) (hq : ∀ a : Nat, a < H.size → ¬ A a → H1[a]? = H[a]?) : vx_L C n d A U H1 := by
  obtain ⟨c, k, i, f, a, cell, h1, h2, h3, h4, h5, h6, h7, h8, h9, h10⟩ := h
  exact ⟨c, k, i, f, a, cell, h1, h2, h3, h4, by rw [hq a (Array.getElem?_eq_some_iff.mp h5).1 h10]; exact h5, h6, h7, h8, h9, h10⟩
theorem vx_L.narrow {C n d : String} {A B : Nat → Prop} {U : State} {H : Heap} (h : vx_L C n d A U H) (hAB : ∀ q, B q → A q) : vx_L C n d B U H := by
  obtain ⟨c, k, i, f, a, cell, h1, h2, h3, h4, h5, h6, h7, h8, h9, h10⟩ := h
  exact ⟨c, k, i, f, a, cell, h1, h2, h3, h4, h5, h6, h7, h8, h9, fun z => h10 (hAB _ z)⟩
theorem vx_L.word {C n d : String} {A : Nat → Prop} {s : State} {args : Array Value} (h : vx_L C n d A s s.heap) : (Cond.laysStatic C n d).before args s = true := by
  obtain ⟨c, k, i, f, a, cell, h1, h2, h3, h4, h5, h6, h7, h8, h9, -⟩ := h
  show (Cond.laysStatic C n d).holds args s none s [] = true
  exact Cond.laysStatic_of h1 h2 h3 h4 h5 h6 h7 h8 h9
/-- .. and what it holds: null or some reference -/
def vx_Zq (C n d : String) (A : Nat → Prop) (U : State) (H : Heap) : Prop := va_Zq C n d A U H ∧ vx_L C n d A U H
theorem vx_Zq.moved {C n d : String} {A : Nat → Prop} {u U : State} {H : Heap} (hvm : u.vm.Alike U.vm) (h : vx_Zq C n d A u H) : vx_Zq C n d A U H := ⟨va_Zq.moved hvm h.1, vx_L.moved hvm h.2⟩
theorem vx_Zq.kept {C n d : String} {A : Nat → Prop} {U : State} {H H1 : Heap} (h : vx_Zq C n d A U H) (hq : ∀ a : Nat, a < H.size → ¬ A a → H1[a]? = H[a]?) : vx_Zq C n d A U H1 := ⟨va_Zq.kept h.1 hq, vx_L.kept h.2 hq⟩
theorem vx_Zq.narrow {C n d : String} {A B : Nat → Prop} {U : State} {H : Heap} (h : vx_Zq C n d A U H) (hAB : ∀ q, B q → A q) : vx_Zq C n d B U H := ⟨va_Zq.narrow h.1 hAB, vx_L.narrow h.2 hAB⟩
theorem vx_Zqof {args : Array Value} {s : State} {C n d : String} {A : Nat → Prop} (hl : (Cond.laysStatic C n d).before args s = true) (hini : (Cond.initialized C).before args s = true) (h : (Cond.isRef (.static C n d)).before args s = true) (hA : ∀ a : Nat, a < s.heap.size → ¬ A a) : vx_Zq C n d A s s.heap := by
  refine ⟨va_Zqof hl hini h hA, ?_⟩
  obtain ⟨c, k, i, f, a, cell, h1, h2, h3, h4, h5, h6, h7, h8, h9⟩ := Cond.laysStatic_spec hl
  exact ⟨c, k, i, f, a, cell, h1, h2, h3, h4, h5, h6, h7, h8, h9, hA a (Array.getElem?_eq_some_iff.mp h5).1⟩
theorem vx_isRef {C n d : String} {v : Value} {A : Nat → Prop} {s : State} {args : Array Value} (h : va_Z C n d v A s s.heap) (hv : v.isRef = true) : (Cond.isRef (.static C n d)).before args s = true := by
  obtain ⟨cf, kf, fi, f, a, cell, h1, h2, h3, h4, h5, h6, h7, -⟩ := h
  have he : (Term.static C n d).eval args s none [] s = some v := by
    simp [Term.eval, State.fieldNamed?, h1, h2, h4, h5, h6, h7]
  simp only [Cond.before, Cond.holds, Cond.value, he]
  cases v <;> simp_all [Value.isRef]
theorem vx_isRefq {C n d : String} {A : Nat → Prop} {s : State} {args : Array Value} (h : va_Zq C n d A s s.heap) : (Cond.isRef (.static C n d)).before args s = true := by
  rcases h with h | ⟨t, h⟩
  · exact vx_isRef h rfl
  · exact vx_isRef h rfl
/-- the same frame, seen from here: as if the method were called anew in this heap -/
theorem vx_rebase {T : State} (X : Stand p l e R s m args below meth c T locs cells slots) {R' : Room} (hf : R'.frames ≤ R.frames) (hl : R'.locals ≤ R.locals) (hc : cells + R'.cells ≤ R.cells) (hs : slots + R'.slots ≤ R.slots) :
    Stand p l e R' ((T.setVm s.vm).setFrames (.invoking m args :: below)) m args below meth c T [] 0 0 := by
  have htop : (T.setVm s.vm).topJava?.isSome := X.here.top
  have hF : ((T.setVm s.vm).setFrames (.invoking m args :: below)).frames = .invoking m args :: below := State.frames_setFrames _ (State.cur_lt_of_top htop)
  obtain ⟨g₀, hg0⟩ := Option.isSome_iff_exists.mp htop
  obtain ⟨r, hr⟩ := State.topJava?_eq_some.mp hg0
  have hl9 : e.platform.stackLimits (T.setVm s.vm).me = e.platform.stackLimits s.me := X.limits
  have hb9 : (T.setVm s.vm).me.stackBytes = s.me.stackBytes := X.bytes
  refine ⟨X.admits, X.cas, X.clock, hF, ?_, X.hears, X.method, X.code, X.here, X.tail, X.warmed, ?_, ?_, ?_⟩
  · have h := X.room
    have hU : ((T.setVm s.vm).setFrames (.invoking m args :: below)).localsInUse = s.localsInUse := by
      rw [State.localsInUse_invoking hF (meth := meth) (c := c) X.method X.code, State.localsInUse_invoking X.frames X.method X.code]
    simp only [State.hasRoom, Bool.and_eq_true, decide_eq_true_eq] at h ⊢
    obtain ⟨⟨⟨⟨h1, h2, h3, h4, h5, h6⟩, h7⟩, h8⟩, h9⟩ := h
    rw [X.frames, List.length_cons] at h2 h3
    have q1 := X.heapSize
    have q2 := X.used
    simp only [hF, hU, List.length_cons, State.stackLimits_setFrames, State.stackBytes_setFrames, hl9, hb9]
    refine ⟨⟨⟨⟨by omega, by omega, by omega, by omega, by omega, h6⟩, ?_⟩, ?_⟩, X.book⟩
    · show T.heap.size + R'.cells ≤ e.platform.maxCells
      omega
    · show T.slotsUsed + R'.slots ≤ e.platform.maxSlots
      omega
  · rw [State.stackLimits_setFrames]; rfl
  · rw [State.stackBytes_setFrames]; rfl
  · refine ⟨?_, Nat.le_refl _, Nat.le_refl _, ?_, ?_, fun a c9 h9 => ⟨c9, h9, rfl, rfl, fun _ _ => rfl⟩⟩
    · obtain ⟨t, ht, -⟩ := State.frames_cons hr
      show T.setVm s.vm = { ((T.setVm s.vm).setFrames (.invoking m args :: below)).setFrames (T.setVm s.vm).frames with heap := T.heap, slotsUsed := T.slotsUsed }
      rw [State.setFrames_setFrames, State.setFrames_self ht]
      rfl
    · show T.slotsUsed = T.slotsUsed + ((T.heap.toList.drop T.heap.size).map (·.slots.size)).sum
      rw [List.drop_eq_nil_of_le (Nat.le_of_eq Array.length_toList)]
      rfl
    · show ((T.heap.toList.drop T.heap.size).map (·.slots.size)).sum ≤ 0
      rw [List.drop_eq_nil_of_le (Nat.le_of_eq Array.length_toList)]
      exact Nat.le_refl _
/-- 'throw new E()': new; dup; invokespecial; athrow -/
theorem vx_throw0 {cc : ByteArray} {pc : Nat} (hexec : p.tables.exec = Jvm.exec) (hb : c.code = cc) (hl : l.stackTraces = false) {own cls : String} {names : List String} {ik ic mc ms : Nat} {A : Nat → Prop}
    (hown : s.vm.findClass own = some m.cls) (hcls : Bundle.fit cls = true) (hnames : ∀ n ∈ names, Bundle.fit n = true)
    (hk : (Cond.classLink own ik cls).before args s = true) (hini : (Cond.initialized cls).before args s = true) (hat : ∀ w ∈ vx_at0 own ic cls names, w.before args s = true)
    (hgood : ∀ w ∈ Cond.classLink own ik cls :: Cond.initialized cls :: vx_at0 own ic cls names, vx_ot w = true)
    (hU : vx_Zq Bundle.tN "UNASSIGNED_STACK" Bundle.steD A s s.heap) (hN : vx_Zq Bundle.tN "SUPPRESSED_SENTINEL" Bundle.listD A s s.heap) (hS : va_S A s.heap H locs) (hsize : ls.size = c.maxLocals)
    (d0 : decode cc pc = .ok (.new ik, 3)) (d3 : decode cc (pc + 3) = .ok (.dup, 1)) (d4 : decode cc (pc + 4) = .ok (.invokespecial ic, 3)) (d7 : decode cc (pc + 7) = .ok (.athrow, 1))
    (hout : ∀ x ∈ c.exceptionTable.toList, covers x (pc + 7) = false)
    (hRframes : names.length + 3 < R.frames) (hRlocals : (rest.map fun v => v.category).sum + (13 * (names.length + 1) + 42) ≤ R.locals) (hRcells : cells + 1 ≤ R.cells) (hRslots : slots + 6 ≤ R.slots) (hlocks : meth.locks = false)
    (hx : ∀ t : State, s.vm.Alike t.vm → H.size ≤ t.heap.size → (∀ q : Nat, q < H.size → t.heap[q]? = H[q]?) → XC cls s t)
    (hf : ∀ z ∈ locs, free z.base) (hc : cells + 1 ≤ mc) (hs : slots + 6 ≤ ms) :
    W p l e R s m args below meth c H locs cells slots (vx_MQ below Qc XC args s mc ms free) (F0 m pc ls rest) := by
  intro T hT X
  have htr : e.platform.stackTraces = false := (show e.platform.stackTraces = l.stackTraces by rw [X.admits.platform]).trans hl
  have Y := vx_rebase X (R' := { frames := R.frames, locals := R.locals, cells := 1, slots := 6 }) (Nat.le_refl _) (Nat.le_refl _) hRcells hRslots
  obtain ⟨s', hA⟩ : ∃ z, z = (T.setVm s.vm).setFrames (.invoking m args :: below) := ⟨_, rfl⟩
  rw [← hA] at Y
  have hvm : s'.vm = s.vm := by rw [hA]; rfl
  have hhp : s'.heap = H := by rw [hA]; exact hT
  have hW0 : s.WarmedH s'.vm := by rw [hvm]; exact State.WarmedH.refl s
  have hat' : ∀ w ∈ vx_at0 own ic cls names, w.before args s' = true := fun w hw => vx_ot_at hW0 hvm.symm (hgood w (List.mem_cons_of_mem _ (List.mem_cons_of_mem _ hw))) (hat w hw)
  have hk' : (Cond.classLink own ik cls).before args s' = true := vx_ot_at hW0 hvm.symm (hgood _ List.mem_cons_self) hk
  have hini' : (Cond.initialized cls).before args s' = true := vx_ot_at hW0 hvm.symm (hgood _ (List.mem_cons_of_mem _ List.mem_cons_self)) hini
  have hU' : vx_Zq Bundle.tN "UNASSIGNED_STACK" Bundle.steD A s' s'.heap := by rw [hhp]; exact vx_Zq.moved hW0.alike (hU.kept hS.2.1)
  have hN' : vx_Zq Bundle.tN "SUPPRESSED_SENTINEL" Bundle.listD A s' s'.heap := by rw [hhp]; exact vx_Zq.moved hW0.alike (hN.kept hS.2.1)
  have h : ∀ w ∈ Bundle.ownAtoms0 own ic cls names, w.before args s' = true := vx_own hat' (vx_isRefq hU'.1) (vx_isRefq hN'.1) hU'.2.word hN'.2.word
  have hown' : s'.vm.findClass own = some m.cls := by rw [hvm]; exact hown
  have hins : (Cond.instantiable cls 6).before args s' = true := h _ (by simp [Bundle.ownAtoms0])
  obtain ⟨vm₁, cX, kX, hfX, hkX, -, -, X₁, st1⟩ := Y.newCold hexec (own := own) (C := cls) (index := ik) (n := 6) hown' hk' hins hini'
    (g := F0 m pc ls rest) rfl (by rw [hb]; exact d0) (Nat.le_refl _) (Nat.le_refl _)
  generalize hT1 : (T.setVm vm₁).pushCell { cls := cX, slots := kX.instanceTypes.map defaultValue, vm := .none } = T1 at X₁ st1
  have hcat : (Value.ref T.heap.size).category = 1 := rfl
  have hcellA : T1.heap[T.heap.size]? = some (freshCell cX kX) := by rw [← hT1]; exact State.heap_pushCell_size _ _
  have d3' : decode c.code (pc + 3) = .ok (.dup, 1) := by rw [hb]; exact d3
  obtain ⟨U, hsteps, hrun, hend, hW, hsame, ce, hce, hO⟩ := X₁.ctorThrow0 hexec htr (own := own) (cls := cls) (names := names) (ic := ic) hown' hcls hnames h (fun x hx => nomatch hx) hfX hkX hcellA (by rw [hhp, hT]; exact Nat.le_refl _)
    (g := { method := m, pc := pc + 4, locals := ls, stack := .ref T.heap.size :: .ref T.heap.size :: rest, locked := none }) rfl hsize rfl rfl (rest := rest) rfl
    (by rw [hb]; exact d4) (by rw [hb]; exact d7) hout hRframes (by simp only [List.map_cons, List.sum_cons, hcat]; omega) hlocks
  obtain ⟨f1, f2⟩ := vx_frame hsame
  rw [hhp] at f1 f2
  have hWs : s.WarmedH U.vm := State.WarmedH.trans hW0 hW
  have hcl : s.vm.findClass cls = some ce.cls := by
    have h9 := hO.cls
    rw [hvm] at h9
    exact h9
  have hall : s.sameButNew ({ U with vm := s.vm } : State) locs mc ms := by
    subst hA
    obtain ⟨e1, e2⟩ := hsame
    rw [State.setFrames_setFrames] at e1
    have h2 : (T.setVm s.vm).sameButNew ({ U with vm := s.vm } : State) [] (0 + 1) (0 + 6) := ⟨e1, e2⟩
    have h3 := X.same.trans h2
    rw [List.append_nil] at h3
    exact h3.mono hc hs
  refine ⟨U, ?_, .threw T.heap.size, hrun, hend, Or.inr ⟨T.heap.size, rfl, cls, ce, locs, hx U hWs.alike f1 (fun q hq => f2 q hq (fun z hz => nomatch hz)), hce, hO.vm, hcl, hWs, hall, hf⟩⟩
  refine st1 _ ?_
  show Steps p.tables e below (T1.setTop { method := m, pc := pc + 3, locals := ls, stack := .ref T.heap.size :: rest, locked := none }) _
  jvm_step X₁.here [X₁.here.top, hexec, d3', Value.category]
  exact hsteps
/-- 'throw new E("text")': new; dup; ldc; invokespecial; athrow -/
theorem vx_throwS {cc : ByteArray} {pc : Nat} (hexec : p.tables.exec = Jvm.exec) (hb : c.code = cc) (hl : l.stackTraces = false) {own cls text : String} {names : List String} {ik is ic mc ms sa : Nat} {A : Nat → Prop}
    (hown : s.vm.findClass own = some m.cls) (hcls : Bundle.fit cls = true) (hnames : ∀ n ∈ names, Bundle.fit n = true)
    (hk : (Cond.classLink own ik cls).before args s = true) (hini : (Cond.initialized cls).before args s = true) (hstr : vk_R own is text sa s) (hat : ∀ w ∈ vx_atS own ic cls names, w.before args s = true)
    (hgood : ∀ w ∈ Cond.classLink own ik cls :: Cond.initialized cls :: vx_atS own ic cls names, vx_ot w = true)
    (hU : vx_Zq Bundle.tN "UNASSIGNED_STACK" Bundle.steD A s s.heap) (hN : vx_Zq Bundle.tN "SUPPRESSED_SENTINEL" Bundle.listD A s s.heap) (hS : va_S A s.heap H locs) (hsize : ls.size = c.maxLocals)
    (d0 : decode cc pc = .ok (.new ik, 3)) (d3 : decode cc (pc + 3) = .ok (.dup, 1)) (d4 : decode cc (pc + 4) = .ok (.ldc is, 2)) (d6 : decode cc (pc + 6) = .ok (.invokespecial ic, 3)) (d9 : decode cc (pc + 9) = .ok (.athrow, 1))
    (hout : ∀ x ∈ c.exceptionTable.toList, covers x (pc + 9) = false)
    (hRframes : names.length + 3 < R.frames) (hRlocals : (rest.map fun v => v.category).sum + (13 * (names.length + 1) + 43) ≤ R.locals) (hRcells : cells + 1 ≤ R.cells) (hRslots : slots + 6 ≤ R.slots) (hlocks : meth.locks = false)
    (hx : ∀ t : State, s.vm.Alike t.vm → H.size ≤ t.heap.size → (∀ q : Nat, q < H.size → t.heap[q]? = H[q]?) → XC cls s t)
    (hf : ∀ z ∈ locs, free z.base) (hc : cells + 1 ≤ mc) (hs : slots + 6 ≤ ms) :
    W p l e R s m args below meth c H locs cells slots (vx_MQ below Qc XC args s mc ms free) (F0 m pc ls rest) := by
  intro T hT X
  have htr : e.platform.stackTraces = false := (show e.platform.stackTraces = l.stackTraces by rw [X.admits.platform]).trans hl
  have Y := vx_rebase X (R' := { frames := R.frames, locals := R.locals, cells := 1, slots := 6 }) (Nat.le_refl _) (Nat.le_refl _) hRcells hRslots
  obtain ⟨s', hA⟩ : ∃ z, z = (T.setVm s.vm).setFrames (.invoking m args :: below) := ⟨_, rfl⟩
  rw [← hA] at Y
  have hvm : s'.vm = s.vm := by rw [hA]; rfl
  have hhp : s'.heap = H := by rw [hA]; exact hT
  have hW0 : s.WarmedH s'.vm := by rw [hvm]; exact State.WarmedH.refl s
  have hat' : ∀ w ∈ vx_atS own ic cls names, w.before args s' = true := fun w hw => vx_ot_at hW0 hvm.symm (hgood w (List.mem_cons_of_mem _ (List.mem_cons_of_mem _ hw))) (hat w hw)
  have hk' : (Cond.classLink own ik cls).before args s' = true := vx_ot_at hW0 hvm.symm (hgood _ List.mem_cons_self) hk
  have hini' : (Cond.initialized cls).before args s' = true := vx_ot_at hW0 hvm.symm (hgood _ (List.mem_cons_of_mem _ List.mem_cons_self)) hini
  have hU' : vx_Zq Bundle.tN "UNASSIGNED_STACK" Bundle.steD A s' s'.heap := by rw [hhp]; exact vx_Zq.moved hW0.alike (hU.kept hS.2.1)
  have hN' : vx_Zq Bundle.tN "SUPPRESSED_SENTINEL" Bundle.listD A s' s'.heap := by rw [hhp]; exact vx_Zq.moved hW0.alike (hN.kept hS.2.1)
  have h : ∀ w ∈ Bundle.ownAtoms own ic cls names, w.before args s' = true := vx_own hat' (vx_isRefq hU'.1) (vx_isRefq hN'.1) hU'.2.word hN'.2.word
  have hown' : s'.vm.findClass own = some m.cls := by rw [hvm]; exact hown
  have hins : (Cond.instantiable cls 6).before args s' = true := h _ (by simp [Bundle.ownAtoms])
  obtain ⟨vm₁, cX, kX, hfX, hkX, -, -, X₁, st1⟩ := Y.newCold hexec (own := own) (C := cls) (index := ik) (n := 6) hown' hk' hins hini'
    (g := F0 m pc ls rest) rfl (by rw [hb]; exact d0) (Nat.le_refl _) (Nat.le_refl _)
  generalize hT1 : (T.setVm vm₁).pushCell { cls := cX, slots := kX.instanceTypes.map defaultValue, vm := .none } = T1 at X₁ st1
  have hcat : (Value.ref T.heap.size).category = 1 := rfl
  have hcellA : T1.heap[T.heap.size]? = some (freshCell cX kX) := by rw [← hT1]; exact State.heap_pushCell_size _ _
  have d3' : decode c.code (pc + 3) = .ok (.dup, 1) := by rw [hb]; exact d3
  have d4' : decode c.code (pc + 4) = .ok (.ldc is, 2) := by rw [hb]; exact d4
  have hstr' : vk_R own is text sa s' := vk_R.warm hW0 hstr
  obtain ⟨U, hsteps, hrun, hend, hW, hsame, ce, hce, hO⟩ := X₁.ctorThrowS hexec htr (own := own) (cls := cls) (names := names) (ic := ic) hown' hcls hnames h (fun x hx => nomatch hx) hfX hkX hcellA (by rw [hhp, hT]; exact Nat.le_refl _) (msg := .ref sa) rfl
    (g := { method := m, pc := pc + 6, locals := ls, stack := .ref sa :: .ref T.heap.size :: .ref T.heap.size :: rest, locked := none }) rfl hsize rfl rfl (rest := rest) rfl
    (by rw [hb]; exact d6) (by rw [hb]; exact d9) hout hRframes (by simp only [List.map_cons, List.sum_cons, hcat]; omega) hlocks
  obtain ⟨f1, f2⟩ := vx_frame hsame
  rw [hhp] at f1 f2
  have hWs : s.WarmedH U.vm := State.WarmedH.trans hW0 hW
  have hcl : s.vm.findClass cls = some ce.cls := by
    have h9 := hO.cls
    rw [hvm] at h9
    exact h9
  have hall : s.sameButNew ({ U with vm := s.vm } : State) locs mc ms := by
    subst hA
    obtain ⟨e1, e2⟩ := hsame
    rw [State.setFrames_setFrames] at e1
    have h2 : (T.setVm s.vm).sameButNew ({ U with vm := s.vm } : State) [] (0 + 1) (0 + 6) := ⟨e1, e2⟩
    have h3 := X.same.trans h2
    rw [List.append_nil] at h3
    exact h3.mono hc hs
  refine ⟨U, ?_, .threw T.heap.size, hrun, hend, Or.inr ⟨T.heap.size, rfl, cls, ce, locs, hx U hWs.alike f1 (fun q hq => f2 q hq (fun z hz => nomatch hz)), hce, hO.vm, hcl, hWs, hall, hf⟩⟩
  refine st1 _ ?_
  show Steps p.tables e below (T1.setTop { method := m, pc := pc + 3, locals := ls, stack := .ref T.heap.size :: rest, locked := none }) _
  jvm_step X₁.here [X₁.here.top, hexec, d3', Value.category]
  exact X₁.ldcString hexec (own := own) (text := text) (index := is) (a := sa) hown' hstr'.1 hstr'.2
    (g := { method := m, pc := pc + 4, locals := ls, stack := .ref T.heap.size :: .ref T.heap.size :: rest, locked := none }) rfl d4' _ hsteps
/-- 'throw new E("text")', the text by a wide index -/
theorem vx_throwSW {cc : ByteArray} {pc : Nat} (hexec : p.tables.exec = Jvm.exec) (hb : c.code = cc) (hl : l.stackTraces = false) {own cls text : String} {names : List String} {ik is ic mc ms sa : Nat} {A : Nat → Prop}
    (hown : s.vm.findClass own = some m.cls) (hcls : Bundle.fit cls = true) (hnames : ∀ n ∈ names, Bundle.fit n = true)
    (hk : (Cond.classLink own ik cls).before args s = true) (hini : (Cond.initialized cls).before args s = true) (hstr : vk_R own is text sa s) (hat : ∀ w ∈ vx_atS own ic cls names, w.before args s = true)
    (hgood : ∀ w ∈ Cond.classLink own ik cls :: Cond.initialized cls :: vx_atS own ic cls names, vx_ot w = true)
    (hU : vx_Zq Bundle.tN "UNASSIGNED_STACK" Bundle.steD A s s.heap) (hN : vx_Zq Bundle.tN "SUPPRESSED_SENTINEL" Bundle.listD A s s.heap) (hS : va_S A s.heap H locs) (hsize : ls.size = c.maxLocals)
    (d0 : decode cc pc = .ok (.new ik, 3)) (d3 : decode cc (pc + 3) = .ok (.dup, 1)) (d4 : decode cc (pc + 4) = .ok (.ldc_w is, 3)) (d7 : decode cc (pc + 7) = .ok (.invokespecial ic, 3)) (d10 : decode cc (pc + 10) = .ok (.athrow, 1))
    (hout : ∀ x ∈ c.exceptionTable.toList, covers x (pc + 10) = false)
    (hRframes : names.length + 3 < R.frames) (hRlocals : (rest.map fun v => v.category).sum + (13 * (names.length + 1) + 43) ≤ R.locals) (hRcells : cells + 1 ≤ R.cells) (hRslots : slots + 6 ≤ R.slots) (hlocks : meth.locks = false)
    (hx : ∀ t : State, s.vm.Alike t.vm → H.size ≤ t.heap.size → (∀ q : Nat, q < H.size → t.heap[q]? = H[q]?) → XC cls s t)
    (hf : ∀ z ∈ locs, free z.base) (hc : cells + 1 ≤ mc) (hs : slots + 6 ≤ ms) :
    W p l e R s m args below meth c H locs cells slots (vx_MQ below Qc XC args s mc ms free) (F0 m pc ls rest) := by
  intro T hT X
  have htr : e.platform.stackTraces = false := (show e.platform.stackTraces = l.stackTraces by rw [X.admits.platform]).trans hl
  have Y := vx_rebase X (R' := { frames := R.frames, locals := R.locals, cells := 1, slots := 6 }) (Nat.le_refl _) (Nat.le_refl _) hRcells hRslots
  obtain ⟨s', hA⟩ : ∃ z, z = (T.setVm s.vm).setFrames (.invoking m args :: below) := ⟨_, rfl⟩
  rw [← hA] at Y
  have hvm : s'.vm = s.vm := by rw [hA]; rfl
  have hhp : s'.heap = H := by rw [hA]; exact hT
  have hW0 : s.WarmedH s'.vm := by rw [hvm]; exact State.WarmedH.refl s
  have hat' : ∀ w ∈ vx_atS own ic cls names, w.before args s' = true := fun w hw => vx_ot_at hW0 hvm.symm (hgood w (List.mem_cons_of_mem _ (List.mem_cons_of_mem _ hw))) (hat w hw)
  have hk' : (Cond.classLink own ik cls).before args s' = true := vx_ot_at hW0 hvm.symm (hgood _ List.mem_cons_self) hk
  have hini' : (Cond.initialized cls).before args s' = true := vx_ot_at hW0 hvm.symm (hgood _ (List.mem_cons_of_mem _ List.mem_cons_self)) hini
  have hU' : vx_Zq Bundle.tN "UNASSIGNED_STACK" Bundle.steD A s' s'.heap := by rw [hhp]; exact vx_Zq.moved hW0.alike (hU.kept hS.2.1)
  have hN' : vx_Zq Bundle.tN "SUPPRESSED_SENTINEL" Bundle.listD A s' s'.heap := by rw [hhp]; exact vx_Zq.moved hW0.alike (hN.kept hS.2.1)
  have h : ∀ w ∈ Bundle.ownAtoms own ic cls names, w.before args s' = true := vx_own hat' (vx_isRefq hU'.1) (vx_isRefq hN'.1) hU'.2.word hN'.2.word
  have hown' : s'.vm.findClass own = some m.cls := by rw [hvm]; exact hown
  have hins : (Cond.instantiable cls 6).before args s' = true := h _ (by simp [Bundle.ownAtoms])
  obtain ⟨vm₁, cX, kX, hfX, hkX, -, -, X₁, st1⟩ := Y.newCold hexec (own := own) (C := cls) (index := ik) (n := 6) hown' hk' hins hini'
    (g := F0 m pc ls rest) rfl (by rw [hb]; exact d0) (Nat.le_refl _) (Nat.le_refl _)
  generalize hT1 : (T.setVm vm₁).pushCell { cls := cX, slots := kX.instanceTypes.map defaultValue, vm := .none } = T1 at X₁ st1
  have hcat : (Value.ref T.heap.size).category = 1 := rfl
  have hcellA : T1.heap[T.heap.size]? = some (freshCell cX kX) := by rw [← hT1]; exact State.heap_pushCell_size _ _
  have d3' : decode c.code (pc + 3) = .ok (.dup, 1) := by rw [hb]; exact d3
  have d4' : decode c.code (pc + 4) = .ok (.ldc_w is, 3) := by rw [hb]; exact d4
  have hstr' : vk_R own is text sa s' := vk_R.warm hW0 hstr
  obtain ⟨U, hsteps, hrun, hend, hW, hsame, ce, hce, hO⟩ := X₁.ctorThrowS hexec htr (own := own) (cls := cls) (names := names) (ic := ic) hown' hcls hnames h (fun x hx => nomatch hx) hfX hkX hcellA (by rw [hhp, hT]; exact Nat.le_refl _) (msg := .ref sa) rfl
    (g := { method := m, pc := pc + 7, locals := ls, stack := .ref sa :: .ref T.heap.size :: .ref T.heap.size :: rest, locked := none }) rfl hsize rfl rfl (rest := rest) rfl
    (by rw [hb]; exact d7) (by rw [hb]; exact d10) hout hRframes (by simp only [List.map_cons, List.sum_cons, hcat]; omega) hlocks
  obtain ⟨f1, f2⟩ := vx_frame hsame
  rw [hhp] at f1 f2
  have hWs : s.WarmedH U.vm := State.WarmedH.trans hW0 hW
  have hcl : s.vm.findClass cls = some ce.cls := by
    have h9 := hO.cls
    rw [hvm] at h9
    exact h9
  have hall : s.sameButNew ({ U with vm := s.vm } : State) locs mc ms := by
    subst hA
    obtain ⟨e1, e2⟩ := hsame
    rw [State.setFrames_setFrames] at e1
    have h2 : (T.setVm s.vm).sameButNew ({ U with vm := s.vm } : State) [] (0 + 1) (0 + 6) := ⟨e1, e2⟩
    have h3 := X.same.trans h2
    rw [List.append_nil] at h3
    exact h3.mono hc hs
  refine ⟨U, ?_, .threw T.heap.size, hrun, hend, Or.inr ⟨T.heap.size, rfl, cls, ce, locs, hx U hWs.alike f1 (fun q hq => f2 q hq (fun z hz => nomatch hz)), hce, hO.vm, hcl, hWs, hall, hf⟩⟩
  refine st1 _ ?_
  show Steps p.tables e below (T1.setTop { method := m, pc := pc + 3, locals := ls, stack := .ref T.heap.size :: rest, locked := none }) _
  jvm_step X₁.here [X₁.here.top, hexec, d3', Value.category]
  exact X₁.ldcStringW hexec (own := own) (text := text) (index := is) (a := sa) hown' hstr'.1 hstr'.2
    (g := { method := m, pc := pc + 4, locals := ls, stack := .ref T.heap.size :: .ref T.heap.size :: rest, locked := none }) rfl d4' _ hsteps
end Ends
section Bodies
variable {l : Launch}
theorem vx_ofW {y : MethodName} {ws ws' : List Cond} {rm : Room} {Pc : Array Value → State → Prop} {Qc : Array Value → State → Outcome → State → Prop} {XC : String → State → State → Prop} {mc ms : Nat} {free : Addr → Prop} {cc : ByteArray} {maxL : Nat} {ret : Option FieldType}
    (hy : plainName y.cls = true) (hw : ws = Cond.code y cc maxL ret :: ws')
    (body : ∀ p e s m args below meth c s₁, BodyLoose p l y (headSpec ws rm) cc maxL ret e s m args below meth c s₁ → c.maxLocals = maxL → (∀ x ∈ c.exceptionTable.toList, False) → Pc args s →
      W p l e (headSpec ws rm).room s m args below meth c s.heap [] 0 0 (vx_MQ below Qc XC args s mc ms free) (entryFrame m args maxL)) : vx_Met l y ws rm Pc Qc XC mc ms free := by
  refine MetFree.of_bodyS (code := cc) (maxLocals := maxL) (ret := ret) hy ?_ ?_
  · intro args s m h hn
    obtain ⟨meth, c, h1, h2, h3, h4, h5, h6, -, -⟩ := Cond.code_spec hn (atoms_spec (ws := ws) h _ (by rw [hw]; exact List.mem_cons_self))
    exact ⟨meth, c, h1, h2, h3, h4, h5, h6⟩
  · intro p e s m args below meth c s₁ B hml hP _
    have hh0 : s₁.heap = s.heap := by rw [B.state]; rfl
    have ht : ∀ x ∈ c.exceptionTable.toList, False := by
      obtain ⟨meth9, c9, h1, h2, -, -, -, -, h7, -⟩ := Cond.code_spec B.named (atoms_spec (ws := ws) B.pre _ (by rw [hw]; exact List.mem_cons_self))
      cases Option.some.inj (h1.symm.trans B.method)
      cases Option.some.inj (h2.symm.trans (Stand.of_body B).code)
      intro x hx
      rw [Array.isEmpty_iff.mp h7] at hx
      cases hx
    obtain ⟨t, a1, o, b1, b2, b3⟩ := body p e s m args below meth c s₁ B hml ht hP s₁ hh0 (Stand.of_body B)
    exact ⟨t, o, a1, b1, b2, b3⟩
/-- the table of a body with handlers -/
theorem vx_table {p : Program} {x y : MethodName} {S : Spec} {cc bytes : ByteArray} {maxL maxL' : Nat} {ret ret' : Option FieldType} {e : Env} {s s₁ : State} {m : MethodId} {args : Array Value} {below : List Frame} {meth : Method} {c : Code} {hh : List (Nat × Nat × Nat × Nat)}
    (B : BodyLoose p l y S cc maxL ret e s m args below meth c s₁) (h : (Cond.codeWith y bytes maxL' ret' hh).before args s = true) : c.exceptionTable.toList = tableOf hh := by
  obtain ⟨m9, meth9, c9, hn9, h1, h2, -, -, h6, -⟩ := Cond.codeWith_spec h
  cases Option.some.inj (hn9.symm.trans B.named)
  cases Option.some.inj (h1.symm.trans B.method)
  cases Option.some.inj (h2.symm.trans (Stand.of_body B).code)
  rw [← h6, table_eq]
end Bodies
end VXA
/-! ===== END ===== -/
/-! ===== BEGIN a static call of a method with an exception table ===== -/
section VXS
variable {p : Program} {l : Launch} {e : Env} {R : Room} {s : State} {m : MethodId} {args : Array Value} {below : List Frame} {meth : Method} {c : Code} {T : State} {H : Heap} {locs : List Loc} {cells slots : Nat}
abbrev vx_CSW (R : Room) (s : State) (args : Array Value) (own : String) (index : Nat) (y : MethodName) (bytes : ByteArray) (maxL : Nat) (ret : Option FieldType) (hh : List (Nat × Nat × Nat × Nat)) (ws : List Cond) (rm : Room) (mc ms n : Nat) : Prop :=
  (rm.cells = mc ∧ rm.slots = ms ∧ rm.frames + 1 ≤ R.frames ∧ 8 + (maxL + 11) + rm.locals ≤ R.locals ∧ (∀ w ∈ ws, ∀ (a' : Array Value) (U : State), s.WarmedH U.vm → w.before a' U = true) ∧ Cond.codeWith y bytes maxL ret hh ∈ ws) ∧
  (Cond.codeWith y bytes maxL ret hh).before args s = true ∧ (Cond.initialized y.cls).before args s = true ∧ (y.cls ≠ "java/lang/invoke/MethodHandle" ∧ y.cls ≠ "java/lang/invoke/VarHandle") ∧
  (∀ sig, parseMethodDescriptor y.desc = some sig → n = sig.parameters.length) ∧ (Cond.methodLink own index y).before args s = true ∧ (Cond.static y).before args s = true
theorem vx_cwSW {own : String} {index maxL mc ms : Nat} {y : MethodName} {bytes : ByteArray} {ret : Option FieldType} {hh : List (Nat × Nat × Nat × Nat)} {Ts ws ws' : List Cond} {rm : Room} (n : Nat) (ht : ∀ w ∈ Ts, w.before args s = true) (hT : GoodIn Ts (va_wsS own index y ws)) (hw : ws = Cond.codeWith y bytes maxL ret hh :: ws') (hrc : rm.cells = mc) (hrs : rm.slots = ms)
    (hd : y.cls ≠ "java/lang/invoke/MethodHandle" ∧ y.cls ≠ "java/lang/invoke/VarHandle" ∧ (parseMethodDescriptor y.desc).map (fun d => d.parameters.length) = some n) (hR : rm.frames + 1 ≤ R.frames ∧ 8 + (maxL + 11) + rm.locals ≤ R.locals) :
    vx_CSW R s args own index y bytes maxL ret hh ws rm mc ms n := by
  have ok : ∀ w ∈ va_wsS own index y ws, w.before args s = true := fun w h => ht w (hT w h).1
  have hG : GoodIn Ts ws := fun w h => hT w (by unfold va_wsS; exact List.mem_append_right _ h)
  have hc : Cond.codeWith y bytes maxL ret hh ∈ ws := by rw [hw]; exact List.mem_cons_self
  refine ⟨⟨hrc, hrs, hR.1, hR.2, pay_in ht hG, hc⟩, ht _ (hG _ hc).1, ok _ (by simp [va_wsS]), ⟨hd.1, hd.2.1⟩, fun sig h => ?_, ok _ (by simp [va_wsS]), ok _ (by simp [va_wsS])⟩
  have h2 := hd.2.2
  rw [h] at h2
  exact (Option.some.inj h2).symm
theorem vx_callSW (X : Stand p l e R s m args below meth c T locs cells slots) (hexec : p.tables.exec = Jvm.exec) {own : String} {index : Nat} {y : MethodName} {bytes : ByteArray} {maxL : Nat} {ret : Option FieldType} {hh : List (Nat × Nat × Nat × Nat)}
    (hown : s.vm.findClass own = some m.cls) (hlink : (Cond.methodLink own index y).before args s = true) (hstat : (Cond.static y).before args s = true) (hinit : (Cond.initialized y.cls).before args s = true)
    (hcode : (Cond.codeWith y bytes maxL ret hh).before args s = true) (hy : y.cls ≠ "java/lang/invoke/MethodHandle" ∧ y.cls ≠ "java/lang/invoke/VarHandle")
    {W9 : Nat} {Pre : Pt → Array Value → Prop} {Post : Pt → Array Value → Option Value → Pt → Prop} (hK : Back l R p e below s args y 3 W9 Pre Post)
    {g : JFrame} (hg : g.method = m) (hsize : g.locals.size = c.maxLocals) {argsL rest : List Value} (hlen : ∀ sig, parseMethodDescriptor y.desc = some sig → argsL.length = sig.parameters.length)
    (hstack : g.stack = argsL.reverse ++ rest) (hW : 2 * g.monitorRoom + (rest.map fun v => v.category).sum ≤ W9) (hdg : decode c.code g.pc = .ok (.invokestatic index, 3))
    (hpre : ∀ vm₁, s.WarmedH vm₁ → Pre ⟨T.setVm vm₁, locs, cells, slots⟩ argsL.toArray) :
    ∃ (v : Option Value) (vm₁ : Vm) (B : Pt), s.WarmedH vm₁ ∧ Stand p l e R s m args below meth c B.U B.locs B.cells B.slots ∧ Post ⟨T.setVm vm₁, locs, cells, slots⟩ argsL.toArray v B ∧
      ∀ target, Steps p.tables e below (B.U.setTop { g with pc := g.pc + 3, stack := v.toList ++ rest }) target → Steps p.tables e below (T.setTop g) target := by
  obtain ⟨mk, methM, cM, hnamed, hmethM, -, -, -, -, -, -, hsigM⟩ := Cond.codeWith_spec hcode
  have hstatic : methM.isStatic = true := Cond.static_spec hnamed hmethM hstat
  obtain ⟨kP, hkP, -⟩ := className_of_methodNamed hnamed
  have hinitP : kP.init = .initialized := Cond.initialized_spec (findClass_of_methodNamed hnamed) hkP hinit
  obtain ⟨vm₁, X₁, hstep₁⟩ := X.invokestatic hexec hown hlink hnamed hmethM hstatic hkP hinitP hy (g := g) hg (argsL := argsL) (rest := rest) (hlen _ hsigM) hstack hdg
  obtain ⟨v, B, X', hpost, hsteps⟩ := hK m meth c ⟨T.setVm vm₁, locs, cells, slots⟩ { g with stack := rest } (.invokestatic index) mk argsL.toArray X₁ hg hsize hdg hW (X₁.named hnamed) (hpre vm₁ X₁.warmed)
  exact ⟨v, vm₁, B, X₁.warmed, X', hpost, fun target h => hstep₁ _ fun acts => by rw [doInvoke_state]; exact hsteps.trans h⟩
theorem vx_runSW {y : MethodName} {bytes cc : ByteArray} {maxL nL mc ms n index : Nat} {ret : Option FieldType} {hh : List (Nat × Nat × Nat × Nat)} {ws : List Cond} {rm : Room} {Pc : Array Value → State → Prop} {Qc : Array Value → State → Outcome → State → Prop} {free : Addr → Prop} {Ts : List Cond} {own : String} {As rest : List Value} {g : JFrame}
    (S : CallFix p m c cc nL s args Ts own) (hM : Met l y ws rm Pc Qc mc ms free) (cw : vx_CSW R s args own index y bytes maxL ret hh ws rm mc ms n) (hp : PreS s H Pc As)
    (hg : g.method = m) (hn : As.length = n) (hsize : g.locals.size = nL) (hstack : g.stack = As.reverse ++ rest) (hW : 2 * g.monitorRoom + (rest.map fun v => v.category).sum ≤ 8) (hdg : decode cc g.pc = .ok (.invokestatic index, 3)) (hf : cells + mc ≤ R.cells ∧ slots + ms ≤ R.slots) :
    va_Run p l e R s m args below meth c H locs cells slots mc ms g rest (Qc As.toArray) (free) := by
  obtain ⟨⟨hrc, hrs, hfr, hlo, hws, hcw⟩, hcode, hini, hy, hlen, hl, hstt⟩ := cw
  have hK : Back l R p e below s args y 3 8 (PreOf R mc ms Pc) (PostOf Qc mc ms free) := va_backW (hh := hh) (bytes := bytes) (maxL := maxL) (ret := ret) hM hp.1 hrc hrs hfr hlo hws hcw (fun a' U hW => word_at hW (Or.inl (by first | rfl | simp [Cond.onTables, Cond.keeps, Cond.steady])) hini)
  obtain ⟨hx, hb, hml, ho, -⟩ := S
  intro T hT X
  obtain ⟨v, vm₁, ⟨U', l2, c2, s2⟩, hW₁, X', ⟨g', mk, t, L, e1, e2, hq, h1, hL, h2, h3⟩, st⟩ := vx_callSW X hx (hh := hh) (bytes := bytes) (maxL := maxL) (ret := ret) ho hl hstt hini hcode hy hK hg (hsize.trans hml.symm) (argsL := As) (rest := rest) (fun sig h => hn.trans (hlen sig h)) hstack hW (by rw [hb]; exact hdg)
    (fun vm₁ hW₁ => ⟨hf.1, hf.2, hp.2 (T.setVm vm₁) hT hW₁⟩)
  dsimp only [Pt.U, Pt.locs, Pt.cells, Pt.slots] at X' e1 e2 h1 h2 h3 st
  subst h1; subst h2; subst h3
  exact ⟨v, (T.setVm vm₁).calling g' mk As.toArray, t, U', L, hT, X', hL, e1, e2, hq, st⟩
/-- not caught here, past rows that name other classes: it goes on to the caller -/
theorem vx_outP {p : Program} {l : Launch} {e : Env} {R : Room} {s : State} {m : MethodId} {args : Array Value} {below : List Frame} {meth : Method} {c : Code} {H : Heap} {locs : List Loc} {cells slots : Nat} {free : Addr → Prop} {ls : Array Slot} {rest : List Value} {Qc : Array Value → State → Outcome → State → Prop} {XC : String → State → State → Prop}
    {pc : Nat} {own E : String} {ce : Cell} {q : Addr} {mc ms : Nat} (hown : s.vm.findClass own = some m.cls) (hlocks : meth.locks = false)
    (hpass : ∀ z ∈ c.exceptionTable.toList, covers z pc = false ∨ (z.catchType ≠ 0 ∧ ∃ nm : String, (Cond.classLink own z.catchType nm).before args s = true ∧ va_Nc E nm s)) (hcell : H[q]? = some ce) (hv : ce.vm = .none) (hcl : s.vm.findClass E = some ce.cls)
    (hx : ∀ t : State, t.heap = H → s.vm.Alike t.vm → XC E s t) (hf : ∀ z ∈ locs, free z.base) (hc : cells ≤ mc) (hs : slots ≤ ms) :
    vx_W p l e R s m args below meth c H locs cells slots (vx_MQ below Qc XC args s mc ms free) (F0 m pc ls rest) q := by
  intro T hT X
  have hpl : e.platform.magicAccessors = ({} : Platform).magicAccessors := by rw [X.admits.platform]
  obtain ⟨vm', hW', X', st⟩ := X.outThrough hlocks q (g := F0 m pc ls rest) rfl rfl rfl (cell := ce) (by rw [hT]; exact hcell) (by rw [hv]; rfl)
    (by obtain ⟨k9, h9, -⟩ := Vm.findClass_spec hcl; exact ⟨k9, h9⟩) (fun z hz => by
      rcases hpass z hz with h | ⟨hz0, nm, hl1, hn1⟩
      · exact Or.inl h
      · obtain ⟨c6, hc6, hcl6⟩ := Cond.classLink_spec hown hl1 e.platform hpl
        obtain ⟨a8, b8, h1, h2, h3⟩ := hn1
        cases Option.some.inj (h1.symm.trans hcl)
        cases Option.some.inj (h2.symm.trans hc6)
        exact Or.inr ⟨hz0, _, hcl6, h3⟩)
  obtain ⟨g₀, hfr⟩ := X'.frames_eq
  have hcell9 : ((T.setVm vm').setFrames (.throwing q :: below)).heap[q]? = some ce := by
    show T.heap[q]? = some ce
    rw [hT]; exact hcell
  have hend : Ended ((T.setVm vm').setFrames (.throwing q :: below)) below (.threw q) := State.frames_setFrames _ (State.cur_lt_of_frames hfr)
  refine ⟨(T.setVm vm').setFrames (.throwing q :: below), ?_, .threw q, X'.here.running, hend, Or.inr ⟨q, rfl, E, ce, locs, hx _ hT (X'.ends _).1.alike, hcell9, hv, hcl, (X'.ends _).1, (X'.ends _).2.mono hc hs, hf⟩⟩
  rw [X.pushThrowing_eq]
  exact st
/-- a thing of a world lies in the heap -/
theorem vx_lt {D : va_G} {cl : List vw_C} {ws : va_W} {H1 : Heap} (h : va_P D cl ws H1) {k : Nat} {q : Nat × va_E} (hk : ws[k]? = some q) : q.1 < H1.size := (h k q hk).lt
end VXS
/-! ===== END ===== -/
/-! ===== BEGIN methods with a table of their own: called by a name, returning or throwing ===== -/
section VXH
/-! vx_backW, vx_callVX, vx_callSX, vx_callVW, vx_runVW, vx_runVX, vx_runSX, vx_ofWH follow the same proofs as their sisters above (Free/Laws.lean, Shelf42/LK1.lean); vx_outP calls Shelf42/NT130.lean (outThrough). -/
section
variable {l : Launch} {R : Room} {p : Program} {e : Env} {below : List Frame} {s : State} {sargs : Array Value} {y : MethodName} {len W9 : Nat}
theorem vx_backW {ws : List Cond} {rm : Room} {Pc : Array Value → State → Prop} {Qc : Array Value → State → Outcome → State → Prop} {XC : String → State → State → Prop} {mc ms : Nat} {free : Addr → Prop} {bytes : ByteArray} {maxL : Nat} {ret : Option FieldType} {hh : List (Nat × Nat × Nat × Nat)}
    (hM : vx_Met l y ws rm Pc Qc XC mc ms free) (hblind : FrameBlind Pc) (hrc : rm.cells = mc) (hrs : rm.slots = ms)
    (hframes : rm.frames + 1 ≤ R.frames) (hlocals : W9 + (maxL + 11) + rm.locals ≤ R.locals)
    (hws : ∀ w ∈ ws, ∀ a' U, s.WarmedH U.vm → w.before a' U = true) (hcode : Cond.codeWith y bytes maxL ret hh ∈ ws) (hinit : ∀ a' U, s.WarmedH U.vm → (Cond.initialized y.cls).before a' U = true) :
    vx_Back l R p e below s sargs y len W9 (PreOf R mc ms Pc) (PostOf Qc mc ms free) (vx_Post XC mc ms free) := by
  intro m meth c A g ig mk a X hg hsize hdg hW hn hp
  have h1 : (headSpec ws rm).pre.before a A.U = true := atoms_intro fun w hw => hws w hw _ _ X.warmed
  have h2 : (Cond.codeWith y bytes maxL ret hh).before a A.U = true := hws _ hcode _ _ X.warmed
  have h3 : (Cond.initialized y.cls).before a A.U = true := hinit _ _ X.warmed
  have h4 : A.cells + (headSpec ws rm).room.cells ≤ R.cells := by rw [show (headSpec ws rm).room.cells = mc from hrc]; exact hp.1
  have h5 : A.slots + (headSpec ws rm).room.slots ≤ R.slots := by rw [show (headSpec ws rm).room.slots = ms from hrs]; exact hp.2.1
  have hPc : Pc a (A.U.calling g mk a) := hblind _ _ _ _ hp.2.2
  obtain ⟨U, Ls, c0, s0⟩ := A
  dsimp only [Pt.U, Pt.locs, Pt.cells, Pt.slots] at h1 h2 h3 h4 h5 X hn hPc ⊢
  obtain ⟨m9, methY, cY, hn9, hmY, hcY, -, hlY, -⟩ := Cond.codeWith_spec h2
  cases Option.some.inj (hn9.symm.trans hn)
  obtain ⟨kY, hkY, -⟩ := className_of_methodNamed hn
  have hinitY : kY.init = .initialized := Cond.initialized_spec (findClass_of_methodNamed hn) hkY h3
  have h : At U g.method c below := by rw [hg]; exact X.here
  have hlocals9 : W9 + (maxL + 11) + (headSpec ws rm).room.locals ≤ R.locals := hlocals
  have happ : (headSpec ws rm).appliesLoose y e.platform (U.calling g mk a) = true :=
    Spec.appliesLoose_calling (g := g) h hdg hn hkY hinitY
      (X.room_calling (g := g) (R' := (headSpec ws rm).room) hsize hmY hcY hframes (by rw [hlY]; omega) h4 h5) h1
  obtain ⟨mid, hmid⟩ := h.above
  have hfr : (U.setTop g).frames = (.java g :: mid) ++ below := by rw [State.frames_setTop' g h.top, hmid]; rfl
  obtain ⟨o, s₂, hsteps, -, hend, hq⟩ := Steps.callFree hM p X.admits X.cas X.clock (acts := []) hfr happ hPc trivial
  have hq' : vx_Q Qc XC mc ms free a (U.calling g mk a) o s₂ := hq
  rw [State.frames_setTop' g h.top] at hend
  obtain ⟨g₀, hg0⟩ := Option.isSome_iff_exists.mp h.top
  obtain ⟨r, hr⟩ := State.topJava?_eq_some.mp hg0
  have hr' : (({ U with heap := s₂.heap, slotsUsed := s₂.slotsUsed } : State).setVm s₂.vm).frames = .java g₀ :: r := hr
  rcases hq' with ⟨hqc, L, hfe, hL⟩ | ⟨q, rfl, E, ce, L, hx, hce, hcv, hcl, hW₂, hsm, hL⟩
  · obtain ⟨⟨v, rfl⟩, hW₂, e2, q2, q3, q4, q5, q6⟩ := id hfe
    have e3 : s₂ = ({ (U.calling g mk a).setFrames s₂.frames with heap := s₂.heap, slotsUsed := s₂.slotsUsed } : State).setVm s₂.vm := by
      have : s₂ = ({ s₂ with vm := (U.calling g mk a).vm } : State).setVm s₂.vm := rfl
      rw [e2] at this
      exact this
    obtain ⟨c₂, i₂, len₂, hc₂, hd₂, hf₂⟩ := hend
    have hW' : U.WarmedH s₂.vm := hW₂
    have hcc : c₂ = c := by
      have h1 : s₂.code? g.method = U.code? g.method := by
        rw [State.code?_eq, State.code?_eq, hW'.alike.method?]
      exact Option.some.inj (hc₂.symm.trans (h1.trans h.code))
    subst hcc
    have hlen : len₂ = len := by rw [hdg] at hd₂; cases hd₂; rfl
    subst hlen
    have hs₂ : s₂ = (({ U with heap := s₂.heap, slotsUsed := s₂.slotsUsed } : State).setVm s₂.vm).setTop { g with pc := g.pc + len₂, stack := v.toList ++ g.stack } := by
      refine e3.trans ?_
      rw [hf₂, State.calling_eq h.top, State.setFrames_setFrames, State.setTop_of_frames _ hr', hr]
      rfl
    have hsame : U.sameButNew ({ U with heap := s₂.heap, slotsUsed := s₂.slotsUsed } : State) L mc ms := by
      refine ⟨?_, q2, q3, q4, q5, q6⟩
      obtain ⟨t, ht, -⟩ := State.frames_cons hr
      show ({ U with heap := s₂.heap, slotsUsed := s₂.slotsUsed } : State) = { U.setFrames U.frames with heap := s₂.heap, slotsUsed := s₂.slotsUsed }
      rw [State.setFrames_self ht]
    subst hg
    refine Or.inl ⟨v, ⟨(({ U with heap := s₂.heap, slotsUsed := s₂.slotsUsed } : State).setVm s₂.vm), Ls ++ L, c0 + mc, s0 + ms⟩,
      ⟨X.admits, X.cas, X.clock, X.frames, X.room, X.hears, X.method, X.code, (X.here.setHeapUsed s₂.heap s₂.slotsUsed).setVm hW'.alike, X.tail, State.WarmedH.trans X.warmed hW', X.limits, X.bytes, X.same.trans (hsame.setVm s.vm)⟩,
      ⟨g, mk, s₂, L, rfl, rfl, hqc, rfl, hL, rfl, rfl⟩, ?_⟩
    show Steps p.tables e below _ ((({ U with heap := s₂.heap, slotsUsed := s₂.slotsUsed } : State).setVm s₂.vm).setTop { g with pc := g.pc + len₂, stack := v.toList ++ g.stack })
    rw [← hs₂]
    exact hsteps
  · obtain ⟨e2, q2, q3, q4, q5, q6⟩ := id hsm
    have e3 : s₂ = ({ (U.calling g mk a).setFrames s₂.frames with heap := s₂.heap, slotsUsed := s₂.slotsUsed } : State).setVm s₂.vm := by
      have : s₂ = ({ s₂ with vm := (U.calling g mk a).vm } : State).setVm s₂.vm := rfl
      rw [e2] at this
      exact this
    have hf₂ : s₂.frames = .throwing q :: .java g :: U.frames.tail := hend
    have hW' : U.WarmedH s₂.vm := hW₂
    have hs₂ : s₂ = ((({ U with heap := s₂.heap, slotsUsed := s₂.slotsUsed } : State).setVm s₂.vm).setTop g).pushFrame (.throwing q) := by
      refine e3.trans ?_
      rw [hf₂, State.calling_eq h.top, State.setFrames_setFrames, State.pushFrame, State.frames_setTop _ hr', State.setTop_of_frames _ hr', State.setFrames_setFrames, hr]
      rfl
    have hsame : U.sameButNew ({ U with heap := s₂.heap, slotsUsed := s₂.slotsUsed } : State) L mc ms := by
      refine ⟨?_, q2, q3, q4, q5, q6⟩
      obtain ⟨t, ht, -⟩ := State.frames_cons hr
      show ({ U with heap := s₂.heap, slotsUsed := s₂.slotsUsed } : State) = { U.setFrames U.frames with heap := s₂.heap, slotsUsed := s₂.slotsUsed }
      rw [State.setFrames_self ht]
    subst hg
    refine Or.inr ⟨q, ⟨(({ U with heap := s₂.heap, slotsUsed := s₂.slotsUsed } : State).setVm s₂.vm), Ls ++ L, c0 + mc, s0 + ms⟩,
      ⟨X.admits, X.cas, X.clock, X.frames, X.room, X.hears, X.method, X.code, (X.here.setHeapUsed s₂.heap s₂.slotsUsed).setVm hW'.alike, X.tail, State.WarmedH.trans X.warmed hW', X.limits, X.bytes, X.same.trans (hsame.setVm s.vm)⟩,
      ⟨g, mk, s₂, L, E, ce, rfl, rfl, hx, hce, hcv, hcl, rfl, hL, rfl, rfl⟩, ?_⟩
    show Steps p.tables e below _ (((({ U with heap := s₂.heap, slotsUsed := s₂.slotsUsed } : State).setVm s₂.vm).setTop g).pushFrame (.throwing q))
    rw [← hs₂]
    exact hsteps
end
variable {p : Program} {l : Launch} {e : Env} {R : Room} {s : State} {m : MethodId} {args : Array Value} {below : List Frame} {meth : Method} {c : Code} {T : State} {H : Heap} {locs : List Loc} {cells slots : Nat}
theorem vx_callVX (X : Stand p l e R s m args below meth c T locs cells slots) (hexec : p.tables.exec = Jvm.exec) {own C : String} {index : Nat} {y : MethodName} {bytes : ByteArray} {maxL : Nat} {ret : Option FieldType} {hh : List (Nat × Nat × Nat × Nat)}
    (hown : s.vm.findClass own = some m.cls) (hlink : (Cond.methodLink own index y).before args s = true) (hinst : (Cond.instanceMethod y).before args s = true) (hsel : (Cond.selects C y y).before args s = true)
    (hcode : (Cond.codeWith y bytes maxL ret hh).before args s = true) (hy : y.cls ≠ "java/lang/invoke/MethodHandle" ∧ y.cls ≠ "java/lang/invoke/VarHandle")
    {W9 : Nat} {Pre : Pt → Array Value → Prop} {Post : Pt → Array Value → Option Value → Pt → Prop} {PostX : Pt → Array Value → Addr → Pt → Prop} (hK : vx_Back l R p e below s args y 3 W9 Pre Post PostX)
    {b : Addr} {cellB : Cell} (hcell : T.heap[b]? = some cellB) (hobj : cellB.vm.isStatics = false) (hcls : s.vm.findClass C = some cellB.cls)
    {g : JFrame} (hg : g.method = m) (hsize : g.locals.size = c.maxLocals) {argsL rest : List Value} (hlen : ∀ sig, parseMethodDescriptor y.desc = some sig → argsL.length = sig.parameters.length)
    (hstack : g.stack = argsL.reverse ++ .ref b :: rest) (hW : 2 * g.monitorRoom + (rest.map fun v => v.category).sum ≤ W9) (hdg : decode c.code g.pc = .ok (.invokevirtual index, 3))
    (hpre : ∀ vm₁, s.WarmedH vm₁ → Pre ⟨T.setVm vm₁, locs, cells, slots⟩ (Value.ref b :: argsL).toArray) :
    (∃ (v : Option Value) (vm₁ : Vm) (B : Pt), s.WarmedH vm₁ ∧ Stand p l e R s m args below meth c B.U B.locs B.cells B.slots ∧ Post ⟨T.setVm vm₁, locs, cells, slots⟩ (Value.ref b :: argsL).toArray v B ∧
      ∀ target, Steps p.tables e below (B.U.setTop { g with pc := g.pc + 3, stack := v.toList ++ rest }) target → Steps p.tables e below (T.setTop g) target) ∨
    (∃ (q : Addr) (vm₁ : Vm) (B : Pt), s.WarmedH vm₁ ∧ Stand p l e R s m args below meth c B.U B.locs B.cells B.slots ∧ PostX ⟨T.setVm vm₁, locs, cells, slots⟩ (Value.ref b :: argsL).toArray q B ∧
      Steps p.tables e below (T.setTop g) ((B.U.setTop { g with stack := rest }).pushFrame (.throwing q))) := by
  obtain ⟨mk, methM, hnamed, hmethM, hstM, habM⟩ := Cond.instanceMethod_spec hinst
  obtain ⟨m8, methM', cM, hn8, hmethM', -, -, -, -, -, -, hsigM⟩ := Cond.codeWith_spec hcode
  cases Option.some.inj (hn8.symm.trans hnamed)
  cases hmethM.symm.trans hmethM'
  obtain ⟨c2, r2, m2, q1, q2, q3, q4, kP, hkP, hkPi⟩ := Cond.selects_spec hsel
  cases hcls.symm.trans q1
  cases (State.methodFound?_of_named hnamed hy).symm.trans q2
  cases hnamed.symm.trans q3
  have hselP : selectMethod e.platform s.vm cellB.cls mk = .method mk := by rw [Launch.admits_selectMethod X.admits]; exact q4
  obtain ⟨vm₁, X₁, hstep₁⟩ := X.invokevirtual hexec hown hlink hnamed hmethM hstM hkP hkPi hy (a := b) (cell := cellB) hcell
    (fun z h => by rw [h] at hobj; cases hobj) hselP hmethM habM hkP hkPi (g := g) hg (argsL := argsL) (rest := rest) (hlen _ hsigM) hstack hdg
  rcases hK m meth c ⟨T.setVm vm₁, locs, cells, slots⟩ { g with stack := rest } (.invokevirtual index) mk (Value.ref b :: argsL).toArray X₁ hg hsize hdg hW (X₁.named hnamed) (hpre vm₁ X₁.warmed) with ⟨v, B, X', hpost, hsteps⟩ | ⟨q, B, X', hpost, hsteps⟩
  · exact Or.inl ⟨v, vm₁, B, X₁.warmed, X', hpost, fun target h => hstep₁ _ fun acts => by rw [doInvoke_state]; exact hsteps.trans h⟩
  · exact Or.inr ⟨q, vm₁, B, X₁.warmed, X', hpost, hstep₁ _ fun acts => by rw [doInvoke_state]; exact hsteps⟩
theorem vx_callSX (X : Stand p l e R s m args below meth c T locs cells slots) (hexec : p.tables.exec = Jvm.exec) {own : String} {index : Nat} {y : MethodName} {bytes : ByteArray} {maxL : Nat} {ret : Option FieldType} {hh : List (Nat × Nat × Nat × Nat)}
    (hown : s.vm.findClass own = some m.cls) (hlink : (Cond.methodLink own index y).before args s = true) (hstat : (Cond.static y).before args s = true) (hinit : (Cond.initialized y.cls).before args s = true)
    (hcode : (Cond.codeWith y bytes maxL ret hh).before args s = true) (hy : y.cls ≠ "java/lang/invoke/MethodHandle" ∧ y.cls ≠ "java/lang/invoke/VarHandle")
    {W9 : Nat} {Pre : Pt → Array Value → Prop} {Post : Pt → Array Value → Option Value → Pt → Prop} {PostX : Pt → Array Value → Addr → Pt → Prop} (hK : vx_Back l R p e below s args y 3 W9 Pre Post PostX)
    {g : JFrame} (hg : g.method = m) (hsize : g.locals.size = c.maxLocals) {argsL rest : List Value} (hlen : ∀ sig, parseMethodDescriptor y.desc = some sig → argsL.length = sig.parameters.length)
    (hstack : g.stack = argsL.reverse ++ rest) (hW : 2 * g.monitorRoom + (rest.map fun v => v.category).sum ≤ W9) (hdg : decode c.code g.pc = .ok (.invokestatic index, 3))
    (hpre : ∀ vm₁, s.WarmedH vm₁ → Pre ⟨T.setVm vm₁, locs, cells, slots⟩ argsL.toArray) :
    (∃ (v : Option Value) (vm₁ : Vm) (B : Pt), s.WarmedH vm₁ ∧ Stand p l e R s m args below meth c B.U B.locs B.cells B.slots ∧ Post ⟨T.setVm vm₁, locs, cells, slots⟩ argsL.toArray v B ∧
      ∀ target, Steps p.tables e below (B.U.setTop { g with pc := g.pc + 3, stack := v.toList ++ rest }) target → Steps p.tables e below (T.setTop g) target) ∨
    (∃ (q : Addr) (vm₁ : Vm) (B : Pt), s.WarmedH vm₁ ∧ Stand p l e R s m args below meth c B.U B.locs B.cells B.slots ∧ PostX ⟨T.setVm vm₁, locs, cells, slots⟩ argsL.toArray q B ∧
      Steps p.tables e below (T.setTop g) ((B.U.setTop { g with stack := rest }).pushFrame (.throwing q))) := by
  obtain ⟨mk, methM, cM, hnamed, hmethM, -, -, -, -, -, -, hsigM⟩ := Cond.codeWith_spec hcode
  have hstatic : methM.isStatic = true := Cond.static_spec hnamed hmethM hstat
  obtain ⟨kP, hkP, -⟩ := className_of_methodNamed hnamed
  have hinitP : kP.init = .initialized := Cond.initialized_spec (findClass_of_methodNamed hnamed) hkP hinit
  obtain ⟨vm₁, X₁, hstep₁⟩ := X.invokestatic hexec hown hlink hnamed hmethM hstatic hkP hinitP hy (g := g) hg (argsL := argsL) (rest := rest) (hlen _ hsigM) hstack hdg
  rcases hK m meth c ⟨T.setVm vm₁, locs, cells, slots⟩ { g with stack := rest } (.invokestatic index) mk argsL.toArray X₁ hg hsize hdg hW (X₁.named hnamed) (hpre vm₁ X₁.warmed) with ⟨v, B, X', hpost, hsteps⟩ | ⟨q, B, X', hpost, hsteps⟩
  · exact Or.inl ⟨v, vm₁, B, X₁.warmed, X', hpost, fun target h => hstep₁ _ fun acts => by rw [doInvoke_state]; exact hsteps.trans h⟩
  · exact Or.inr ⟨q, vm₁, B, X₁.warmed, X', hpost, hstep₁ _ fun acts => by rw [doInvoke_state]; exact hsteps⟩
theorem vx_callVW (X : Stand p l e R s m args below meth c T locs cells slots) (hexec : p.tables.exec = Jvm.exec) {own C : String} {index : Nat} {y : MethodName} {bytes : ByteArray} {maxL : Nat} {ret : Option FieldType} {hh : List (Nat × Nat × Nat × Nat)}
    (hown : s.vm.findClass own = some m.cls) (hlink : (Cond.methodLink own index y).before args s = true) (hinst : (Cond.instanceMethod y).before args s = true) (hsel : (Cond.selects C y y).before args s = true)
    (hcode : (Cond.codeWith y bytes maxL ret hh).before args s = true) (hy : y.cls ≠ "java/lang/invoke/MethodHandle" ∧ y.cls ≠ "java/lang/invoke/VarHandle")
    {W9 : Nat} {Pre : Pt → Array Value → Prop} {Post : Pt → Array Value → Option Value → Pt → Prop} (hK : Back l R p e below s args y 3 W9 Pre Post)
    {b : Addr} {cellB : Cell} (hcell : T.heap[b]? = some cellB) (hobj : cellB.vm.isStatics = false) (hcls : s.vm.findClass C = some cellB.cls)
    {g : JFrame} (hg : g.method = m) (hsize : g.locals.size = c.maxLocals) {argsL rest : List Value} (hlen : ∀ sig, parseMethodDescriptor y.desc = some sig → argsL.length = sig.parameters.length)
    (hstack : g.stack = argsL.reverse ++ .ref b :: rest) (hW : 2 * g.monitorRoom + (rest.map fun v => v.category).sum ≤ W9) (hdg : decode c.code g.pc = .ok (.invokevirtual index, 3))
    (hpre : ∀ vm₁, s.WarmedH vm₁ → Pre ⟨T.setVm vm₁, locs, cells, slots⟩ (Value.ref b :: argsL).toArray) :
    ∃ (v : Option Value) (vm₁ : Vm) (B : Pt), s.WarmedH vm₁ ∧ Stand p l e R s m args below meth c B.U B.locs B.cells B.slots ∧ Post ⟨T.setVm vm₁, locs, cells, slots⟩ (Value.ref b :: argsL).toArray v B ∧
      ∀ target, Steps p.tables e below (B.U.setTop { g with pc := g.pc + 3, stack := v.toList ++ rest }) target → Steps p.tables e below (T.setTop g) target := by
  obtain ⟨mk, methM, hnamed, hmethM, hstM, habM⟩ := Cond.instanceMethod_spec hinst
  obtain ⟨m8, methM', cM, hn8, hmethM', -, -, -, -, -, -, hsigM⟩ := Cond.codeWith_spec hcode
  cases Option.some.inj (hn8.symm.trans hnamed)
  cases hmethM.symm.trans hmethM'
  obtain ⟨c2, r2, m2, q1, q2, q3, q4, kP, hkP, hkPi⟩ := Cond.selects_spec hsel
  cases hcls.symm.trans q1
  cases (State.methodFound?_of_named hnamed hy).symm.trans q2
  cases hnamed.symm.trans q3
  have hselP : selectMethod e.platform s.vm cellB.cls mk = .method mk := by rw [Launch.admits_selectMethod X.admits]; exact q4
  obtain ⟨vm₁, X₁, hstep₁⟩ := X.invokevirtual hexec hown hlink hnamed hmethM hstM hkP hkPi hy (a := b) (cell := cellB) hcell
    (fun z h => by rw [h] at hobj; cases hobj) hselP hmethM habM hkP hkPi (g := g) hg (argsL := argsL) (rest := rest) (hlen _ hsigM) hstack hdg
  obtain ⟨v, B, X', hpost, hsteps⟩ := hK m meth c ⟨T.setVm vm₁, locs, cells, slots⟩ { g with stack := rest } (.invokevirtual index) mk (Value.ref b :: argsL).toArray X₁ hg hsize hdg hW (X₁.named hnamed) (hpre vm₁ X₁.warmed)
  exact ⟨v, vm₁, B, X₁.warmed, X', hpost, fun target h => hstep₁ _ fun acts => by rw [doInvoke_state]; exact hsteps.trans h⟩
abbrev vx_CVW (R : Room) (s : State) (args : Array Value) (own C : String) (index : Nat) (y : MethodName) (bytes : ByteArray) (maxL : Nat) (ret : Option FieldType) (hh : List (Nat × Nat × Nat × Nat)) (ws : List Cond) (rm : Room) (mc ms n : Nat) : Prop :=
  (rm.cells = mc ∧ rm.slots = ms ∧ rm.frames + 1 ≤ R.frames ∧ 8 + (maxL + 11) + rm.locals ≤ R.locals ∧ (∀ w ∈ ws, ∀ (a' : Array Value) (U : State), s.WarmedH U.vm → w.before a' U = true) ∧ Cond.codeWith y bytes maxL ret hh ∈ ws) ∧
  (Cond.codeWith y bytes maxL ret hh).before args s = true ∧ (Cond.initialized y.cls).before args s = true ∧ (y.cls ≠ "java/lang/invoke/MethodHandle" ∧ y.cls ≠ "java/lang/invoke/VarHandle") ∧
  (∀ sig, parseMethodDescriptor y.desc = some sig → n = sig.parameters.length) ∧ (Cond.methodLink own index y).before args s = true ∧ (Cond.instanceMethod y).before args s = true ∧ (Cond.selects C y y).before args s = true
theorem vx_cwVW {own C : String} {index maxL mc ms : Nat} {y : MethodName} {bytes : ByteArray} {ret : Option FieldType} {hh : List (Nat × Nat × Nat × Nat)} {Ts ws ws' : List Cond} {rm : Room} (n : Nat) (ht : ∀ w ∈ Ts, w.before args s = true) (hT : GoodIn Ts (wsV own index C y ws)) (hw : ws = Cond.codeWith y bytes maxL ret hh :: ws') (hrc : rm.cells = mc) (hrs : rm.slots = ms)
    (hd : y.cls = C ∧ y.cls ≠ "java/lang/invoke/MethodHandle" ∧ y.cls ≠ "java/lang/invoke/VarHandle" ∧ (parseMethodDescriptor y.desc).map (fun d => d.parameters.length) = some n) (hR : rm.frames + 1 ≤ R.frames ∧ 8 + (maxL + 11) + rm.locals ≤ R.locals) :
    vx_CVW R s args own C index y bytes maxL ret hh ws rm mc ms n := by
  obtain ⟨hC, hd⟩ := hd
  subst hC
  have ok : ∀ w ∈ wsV own index y.cls y ws, w.before args s = true := fun w h => ht w (hT w h).1
  have hG : GoodIn Ts ws := fun w h => hT w (by unfold wsV; exact List.mem_append_right _ h)
  have hc : Cond.codeWith y bytes maxL ret hh ∈ ws := by rw [hw]; exact List.mem_cons_self
  refine ⟨⟨hrc, hrs, hR.1, hR.2, pay_in ht hG, hc⟩, ht _ (hG _ hc).1, ok _ (by simp [wsV]), ⟨hd.1, hd.2.1⟩, fun sig h => ?_, ok _ (by simp [wsV]), ok _ (by simp [wsV]), ok _ (by simp [wsV])⟩
  have h2 := hd.2.2
  rw [h] at h2
  exact (Option.some.inj h2).symm
theorem vx_runVW {y : MethodName} {bytes cc : ByteArray} {maxL nL mc ms n index : Nat} {ret : Option FieldType} {hh : List (Nat × Nat × Nat × Nat)} {ws : List Cond} {rm : Room} {Pc : Array Value → State → Prop} {Qc : Array Value → State → Outcome → State → Prop} {free : Addr → Prop} {Ts : List Cond} {own C : String} {b : Addr} {As rest : List Value} {g : JFrame}
    (S : CallFix p m c cc nL s args Ts own) (hM : Met l y ws rm Pc Qc mc ms free) (cw : vx_CVW R s args own C index y bytes maxL ret hh ws rm mc ms n) (hp : PreV s H C b Pc As)
    (hg : g.method = m) (hn : As.length = n) (hsize : g.locals.size = nL) (hstack : g.stack = As.reverse ++ .ref b :: rest) (hW : 2 * g.monitorRoom + (rest.map fun v => v.category).sum ≤ 8) (hdg : decode cc g.pc = .ok (.invokevirtual index, 3)) (hf : cells + mc ≤ R.cells ∧ slots + ms ≤ R.slots) :
    va_Run p l e R s m args below meth c H locs cells slots mc ms g rest (Qc (Value.ref b :: As).toArray) free := by
  obtain ⟨⟨hrc, hrs, hfr, hlo, hws, hcw⟩, hcode, hini, hy, hlen, hl, hin, hse⟩ := cw
  have hK : Back l R p e below s args y 3 8 (PreOf R mc ms Pc) (PostOf Qc mc ms free) := va_backW (hh := hh) (bytes := bytes) (maxL := maxL) (ret := ret) hM hp.1 hrc hrs hfr hlo hws hcw (fun a' U hW => word_at hW (Or.inl (by first | rfl | simp [Cond.onTables, Cond.keeps, Cond.steady])) hini)
  obtain ⟨hx, hb, hml, ho, -⟩ := S
  obtain ⟨-, ⟨cellB, hcB, hoB, hclB⟩, hPc⟩ := hp
  intro T hT X
  obtain ⟨v, vm₁, ⟨U', l2, c2, s2⟩, hW₁, X', ⟨g', mk, t, L, e1, e2, hq, h1, hL, h2, h3⟩, st⟩ := vx_callVW X hx (C := C) (hh := hh) (bytes := bytes) (maxL := maxL) (ret := ret) ho hl hin hse hcode hy hK (by rw [hT]; exact hcB) hoB hclB hg (hsize.trans hml.symm) (argsL := As) (rest := rest) (fun sig h => hn.trans (hlen sig h)) hstack hW (by rw [hb]; exact hdg)
    (fun vm₁ hW₁ => ⟨hf.1, hf.2, hPc (T.setVm vm₁) hT hW₁⟩)
  dsimp only [Pt.U, Pt.locs, Pt.cells, Pt.slots] at X' e1 e2 h1 h2 h3 st
  subst h1; subst h2; subst h3
  exact ⟨v, (T.setVm vm₁).calling g' mk (Value.ref b :: As).toArray, t, U', L, hT, X', hL, e1, e2, hq, st⟩
section
variable {y : MethodName} {bytes cc : ByteArray} {maxL nL mc ms n index : Nat} {ret : Option FieldType} {ws : List Cond} {rm : Room} {Pc : Array Value → State → Prop} {Qc : Array Value → State → Outcome → State → Prop} {XC : String → State → State → Prop} {free : Addr → Prop} {Ts : List Cond} {own C : String} {b : Addr} {As rest : List Value} {g : JFrame}
theorem vx_runVX {hh : List (Nat × Nat × Nat × Nat)} (S : CallFix p m c cc nL s args Ts own) (hM : vx_Met l y ws rm Pc Qc XC mc ms free) (cw : vx_CVW R s args own C index y bytes maxL ret hh ws rm mc ms n) (hp : PreV s H C b Pc As)
    (hg : g.method = m) (hn : As.length = n) (hsize : g.locals.size = nL) (hstack : g.stack = As.reverse ++ .ref b :: rest) (hW : 2 * g.monitorRoom + (rest.map fun v => v.category).sum ≤ 8) (hdg : decode cc g.pc = .ok (.invokevirtual index, 3)) (hf : cells + mc ≤ R.cells ∧ slots + ms ≤ R.slots) :
    vx_Run p l e R s m args below meth c H locs cells slots mc ms g rest (Qc (Value.ref b :: As).toArray) XC free := by
  obtain ⟨⟨hrc, hrs, hfr, hlo, hws, hcw⟩, hcode, hini, hy, hlen, hl, hin, hse⟩ := cw
  have hK : vx_Back l R p e below s args y 3 8 (PreOf R mc ms Pc) (PostOf Qc mc ms free) (vx_Post XC mc ms free) := vx_backW (hh := hh) (bytes := bytes) (maxL := maxL) (ret := ret) hM hp.1 hrc hrs hfr hlo hws hcw (fun a' U hW => word_at hW (Or.inl (by first | rfl | simp [Cond.onTables, Cond.keeps, Cond.steady])) hini)
  obtain ⟨hx, hb, hml, ho, -⟩ := S
  obtain ⟨-, ⟨cellB, hcB, hoB, hclB⟩, hPc⟩ := hp
  intro T hT X
  rcases vx_callVX X hx (C := C) (hh := hh) (bytes := bytes) (maxL := maxL) (ret := ret) ho hl hin hse hcode hy hK (by rw [hT]; exact hcB) hoB hclB hg (hsize.trans hml.symm) (argsL := As) (rest := rest) (fun sig h => hn.trans (hlen sig h)) hstack hW (by rw [hb]; exact hdg)
    (fun vm₁ hW₁ => ⟨hf.1, hf.2, hPc (T.setVm vm₁) hT hW₁⟩) with ⟨v, vm₁, ⟨U', l2, c2, s2⟩, hW₁, X', ⟨g', mk, t, L, e1, e2, hq, h1, hL, h2, h3⟩, st⟩ | ⟨q, vm₁, ⟨U', l2, c2, s2⟩, hW₁, X', ⟨g', mk, t, L, E, ce, e1, e2, hq, hce, hcv, hcl, h1, hL, h2, h3⟩, st⟩
  · dsimp only [Pt.U, Pt.locs, Pt.cells, Pt.slots] at X' e1 e2 h1 h2 h3 st
    subst h1; subst h2; subst h3
    exact Or.inl ⟨v, (T.setVm vm₁).calling g' mk (Value.ref b :: As).toArray, t, U', L, hT, X', hL, e1, e2, hq, st⟩
  · dsimp only [Pt.U, Pt.locs, Pt.cells, Pt.slots] at X' e1 e2 h1 h2 h3 st hcl
    subst h1; subst h2; subst h3
    exact Or.inr ⟨q, (T.setVm vm₁).calling g' mk (Value.ref b :: As).toArray, t, U', L, E, ce, hT, X', hL, e1, e2, hq, hce, hcv, vx_cls hW₁ hcl, st⟩
theorem vx_runSX {hh : List (Nat × Nat × Nat × Nat)} (S : CallFix p m c cc nL s args Ts own) (hM : vx_Met l y ws rm Pc Qc XC mc ms free) (cw : vx_CSW R s args own index y bytes maxL ret hh ws rm mc ms n) (hp : PreS s H Pc As)
    (hg : g.method = m) (hn : As.length = n) (hsize : g.locals.size = nL) (hstack : g.stack = As.reverse ++ rest) (hW : 2 * g.monitorRoom + (rest.map fun v => v.category).sum ≤ 8) (hdg : decode cc g.pc = .ok (.invokestatic index, 3)) (hf : cells + mc ≤ R.cells ∧ slots + ms ≤ R.slots) :
    vx_Run p l e R s m args below meth c H locs cells slots mc ms g rest (Qc As.toArray) XC free := by
  obtain ⟨⟨hrc, hrs, hfr, hlo, hws, hcw⟩, hcode, hini, hy, hlen, hl, hstt⟩ := cw
  have hK : vx_Back l R p e below s args y 3 8 (PreOf R mc ms Pc) (PostOf Qc mc ms free) (vx_Post XC mc ms free) := vx_backW (hh := hh) (bytes := bytes) (maxL := maxL) (ret := ret) hM hp.1 hrc hrs hfr hlo hws hcw (fun a' U hW => word_at hW (Or.inl (by first | rfl | simp [Cond.onTables, Cond.keeps, Cond.steady])) hini)
  obtain ⟨hx, hb, hml, ho, -⟩ := S
  intro T hT X
  rcases vx_callSX X hx (hh := hh) (bytes := bytes) (maxL := maxL) (ret := ret) ho hl hstt hini hcode hy hK hg (hsize.trans hml.symm) (argsL := As) (rest := rest) (fun sig h => hn.trans (hlen sig h)) hstack hW (by rw [hb]; exact hdg)
    (fun vm₁ hW₁ => ⟨hf.1, hf.2, hp.2 (T.setVm vm₁) hT hW₁⟩) with ⟨v, vm₁, ⟨U', l2, c2, s2⟩, hW₁, X', ⟨g', mk, t, L, e1, e2, hq, h1, hL, h2, h3⟩, st⟩ | ⟨q, vm₁, ⟨U', l2, c2, s2⟩, hW₁, X', ⟨g', mk, t, L, E, ce, e1, e2, hq, hce, hcv, hcl, h1, hL, h2, h3⟩, st⟩
  · dsimp only [Pt.U, Pt.locs, Pt.cells, Pt.slots] at X' e1 e2 h1 h2 h3 st
    subst h1; subst h2; subst h3
    exact Or.inl ⟨v, (T.setVm vm₁).calling g' mk As.toArray, t, U', L, hT, X', hL, e1, e2, hq, st⟩
  · dsimp only [Pt.U, Pt.locs, Pt.cells, Pt.slots] at X' e1 e2 h1 h2 h3 st hcl
    subst h1; subst h2; subst h3
    exact Or.inr ⟨q, (T.setVm vm₁).calling g' mk As.toArray, t, U', L, E, ce, hT, X', hL, e1, e2, hq, hce, hcv, vx_cls hW₁ hcl, st⟩
end
end VXH
theorem vx_ofWH {l : Launch} {y : MethodName} {ws ws' : List Cond} {rm : Room} {Pc : Array Value → State → Prop} {Qc : Array Value → State → Outcome → State → Prop} {XC : String → State → State → Prop} {mc ms : Nat} {free : Addr → Prop} {cc : ByteArray} {maxL : Nat} {ret : Option FieldType} {hh : List (Nat × Nat × Nat × Nat)}
    (hy : plainName y.cls = true) (hw : ws = Cond.codeWith y cc maxL ret hh :: ws')
    (body : ∀ p e s m args below meth c s₁, BodyLoose p l y (headSpec ws rm) cc maxL ret e s m args below meth c s₁ → c.maxLocals = maxL → Pc args s →
      W p l e (headSpec ws rm).room s m args below meth c s.heap [] 0 0 (vx_MQ below Qc XC args s mc ms free) (entryFrame m args maxL)) : vx_Met l y ws rm Pc Qc XC mc ms free := by
  refine MetFree.of_bodyS (code := cc) (maxLocals := maxL) (ret := ret) hy ?_ ?_
  · intro args s m h hn
    obtain ⟨m9, meth, c, hn9, h1, h2, h3, h4, -, h5, h6, -⟩ := Cond.codeWith_spec (atoms_spec (ws := ws) h _ (by rw [hw]; exact List.mem_cons_self))
    cases hn.symm.trans hn9
    exact ⟨meth, c, h1, h2, h3, h4, h5, h6⟩
  · intro p e s m args below meth c s₁ B hml hP _
    have hh0 : s₁.heap = s.heap := by rw [B.state]; rfl
    obtain ⟨t, a1, o, b1, b2, b3⟩ := body p e s m args below meth c s₁ B hml hP s₁ hh0 (Stand.of_body B)
    exact ⟨t, o, a1, b1, b2, b3⟩
/-! ===== END ===== -/
end
section
/-! ===== BEGIN printed: names, fields, word lists, decode rows ===== -/
def RX0 : String := "AlignRows$Glue"
def TX0 : u_T := fun k => match k with
  | 0 => ("AlignRows$Glue", "width", "I", false)
  | 1 => ("AlignRows$Glue", "stretch", "I", false)
  | 2 => ("AlignRows$Glue", "stretchOrder", "I", false)
  | 3 => ("AlignRows$Glue", "shrink", "I", false)
  | _ => ("AlignRows$Glue", "shrinkOrder", "I", false)
def tyX0 : Nat → FieldType := fun k => match k with
  | 0 => .int
  | 1 => .int
  | 2 => .int
  | 3 => .int
  | _ => .int
abbrev wsX00 : List Cond := u_ws RX0 TX0 5
theorem nmX0 : ∀ a, a < 5 → ∀ b, b < 5 → a ≠ b → (TX0 a).2.1 ≠ (TX0 b).2.1 := by decide +kernel
theorem tyX0_ok : ∀ k, k < 5 → parseFieldDescriptor (TX0 k).2.2.1 = some (tyX0 k) := by decide +kernel
abbrev cX0_init : ByteArray := prog_2_method_1_code
def yX0_init : MethodName := ⟨RX0, "<init>", "()V"⟩
abbrev cX0_setStretch : ByteArray := prog_2_method_2_code
def yX0_setStretch : MethodName := ⟨RX0, "setStretch", "(III)V"⟩
abbrev cX0_setShrink : ByteArray := prog_2_method_3_code
def yX0_setShrink : MethodName := ⟨RX0, "setShrink", "(II)V"⟩
def RX1 : String := "AlignRows$LastRun"
def TX1 : u_T := fun k => match k with
  | 0 => ("AlignRows$LastRun", "widths", "[I", true)
  | 1 => ("AlignRows$LastRun", "voids", "[Z", true)
  | 2 => ("AlignRows$LastRun", "places", "[J", true)
  | 3 => ("AlignRows$LastRun", "glueWidths", "[I", true)
  | 4 => ("AlignRows$LastRun", "gives", "[I", true)
  | 5 => ("AlignRows$LastRun", "giveOrders", "[I", true)
  | 6 => ("AlignRows$LastRun", "needs", "LAlignRows$Needs;", true)
  | 7 => ("AlignRows$LastRun", "runs", "I", false)
  | 8 => ("AlignRows$LastRun", "columns", "I", false)
  | 9 => ("AlignRows$LastRun", "natural", "J", false)
  | 10 => ("AlignRows$LastRun", "excess", "J", false)
  | 11 => ("AlignRows$LastRun", "order", "I", false)
  | _ => ("AlignRows$LastRun", "missing", "J", false)
def tyX1 : Nat → FieldType := fun k => match k with
  | 0 => .array .int
  | 1 => .array .boolean
  | 2 => .array .long
  | 3 => .array .int
  | 4 => .array .int
  | 5 => .array .int
  | 6 => .object "AlignRows$Needs"
  | 7 => .int
  | 8 => .int
  | 9 => .long
  | 10 => .long
  | 11 => .int
  | _ => .long
abbrev wsX10 : List Cond := u_ws RX1 TX1 13
theorem nmX1 : ∀ a, a < 13 → ∀ b, b < 13 → a ≠ b → (TX1 a).2.1 ≠ (TX1 b).2.1 := by decide +kernel
theorem tyX1_ok : ∀ k, k < 13 → parseFieldDescriptor (TX1 k).2.2.1 = some (tyX1 k) := by decide +kernel
abbrev cX1_init : ByteArray := prog_3_method_1_code
def yX1_init : MethodName := ⟨RX1, "<init>", "()V"⟩
abbrev cX1_setTable : ByteArray := prog_3_method_2_code
def yX1_setTable : MethodName := ⟨RX1, "setTable", "(LAlignRows$Table;II)J"⟩
abbrev cX1_gatherNeeds : ByteArray := prog_3_method_3_code
def yX1_gatherNeeds : MethodName := ⟨RX1, "gatherNeeds", "(LAlignRows$Table;)V"⟩
abbrev cX1_findWidths : ByteArray := prog_3_method_4_code
def yX1_findWidths : MethodName := ⟨RX1, "findWidths", "(LAlignRows$Table;)V"⟩
abbrev cX1_naturalWidth : ByteArray := prog_3_method_5_code
def yX1_naturalWidth : MethodName := ⟨RX1, "naturalWidth", "()J"⟩
abbrev cX1_gatherGives : ByteArray := prog_3_method_6_code
def yX1_gatherGives : MethodName := ⟨RX1, "gatherGives", "(LAlignRows$Table;)V"⟩
abbrev cX1_greatestOrder : ByteArray := prog_3_method_7_code
def yX1_greatestOrder : MethodName := ⟨RX1, "greatestOrder", "()I"⟩
abbrev cX1_wholeSum : ByteArray := prog_3_method_8_code
def yX1_wholeSum : MethodName := ⟨RX1, "wholeSum", "()J"⟩
abbrev cX1_giveOf : ByteArray := prog_3_method_9_code
def yX1_giveOf : MethodName := ⟨RX1, "giveOf", "(I)J"⟩
abbrev cX1_share : ByteArray := prog_3_method_10_code
def yX1_share : MethodName := ⟨RX1, "share", "()V"⟩
abbrev cX1_findPlaces : ByteArray := prog_3_method_11_code
def yX1_findPlaces : MethodName := ⟨RX1, "findPlaces", "(JJ)V"⟩
abbrev cX1_setWidth : ByteArray := prog_3_method_12_code
def yX1_setWidth : MethodName := ⟨RX1, "setWidth", "()J"⟩
abbrev cX1_isNestable : ByteArray := prog_3_method_13_code
def yX1_isNestable : MethodName := ⟨RX1, "isNestable", "()Z"⟩
abbrev cX1_hasColumn : ByteArray := prog_3_method_14_code
def yX1_hasColumn : MethodName := ⟨RX1, "hasColumn", "(I)Z"⟩
abbrev cX1_boxPlace : ByteArray := prog_3_method_15_code
def yX1_boxPlace : MethodName := ⟨RX1, "boxPlace", "(II)J"⟩
abbrev cX1_boxWidth : ByteArray := prog_3_method_16_code
def yX1_boxWidth : MethodName := ⟨RX1, "boxWidth", "(II)J"⟩
abbrev cX1_tell : ByteArray := prog_3_method_17_code
def yX1_tell : MethodName := ⟨RX1, "tell", "(I)J"⟩
def RX2 : String := "AlignRows$Needs"
def TX2 : u_T := fun k => match k with
  | _ => ("AlignRows$Needs", "greatest", "[[I", true)
def tyX2 : Nat → FieldType := fun k => match k with
  | _ => .array (.array .int)
abbrev wsX20 : List Cond := u_ws RX2 TX2 1
theorem nmX2 : ∀ a, a < 1 → ∀ b, b < 1 → a ≠ b → (TX2 a).2.1 ≠ (TX2 b).2.1 := by decide +kernel
theorem tyX2_ok : ∀ k, k < 1 → parseFieldDescriptor (TX2 k).2.2.1 = some (tyX2 k) := by decide +kernel
abbrev cX2_init : ByteArray := prog_4_method_1_code
def yX2_init : MethodName := ⟨RX2, "<init>", "()V"⟩
abbrev cX2_clear : ByteArray := prog_4_method_2_code
def yX2_clear : MethodName := ⟨RX2, "clear", "()V"⟩
abbrev cX2_add : ByteArray := prog_4_method_3_code
def yX2_add : MethodName := ⟨RX2, "add", "(III)V"⟩
abbrev cX2_over : ByteArray := prog_4_method_4_code
def yX2_over : MethodName := ⟨RX2, "over", "(I)I"⟩
abbrev cX2_moveOn : ByteArray := prog_4_method_5_code
def yX2_moveOn : MethodName := ⟨RX2, "moveOn", "(II)V"⟩
def RX3 : String := "AlignRows$Preamble"
def TX3 : u_T := fun k => match k with
  | 0 => ("AlignRows$Preamble", "tape", "[C", true)
  | 1 => ("AlignRows$Preamble", "before", "[I", true)
  | 2 => ("AlignRows$Preamble", "behind", "[I", true)
  | 3 => ("AlignRows$Preamble", "length", "I", false)
  | 4 => ("AlignRows$Preamble", "laid", "Z", false)
  | 5 => ("AlignRows$Preamble", "templates", "I", false)
  | 6 => ("AlignRows$Preamble", "repeatFrom", "I", false)
  | _ => ("AlignRows$Preamble", "marked", "Z", false)
def tyX3 : Nat → FieldType := fun k => match k with
  | 0 => .array .char
  | 1 => .array .int
  | 2 => .array .int
  | 3 => .int
  | 4 => .boolean
  | 5 => .int
  | 6 => .int
  | _ => .boolean
abbrev wsX30 : List Cond := u_ws RX3 TX3 8
theorem nmX3 : ∀ a, a < 8 → ∀ b, b < 8 → a ≠ b → (TX3 a).2.1 ≠ (TX3 b).2.1 := by decide +kernel
theorem tyX3_ok : ∀ k, k < 8 → parseFieldDescriptor (TX3 k).2.2.1 = some (tyX3 k) := by decide +kernel
abbrev cX3_init : ByteArray := prog_5_method_1_code
def yX3_init : MethodName := ⟨RX3, "<init>", "()V"⟩
abbrev cX3_append : ByteArray := prog_5_method_2_code
def yX3_append : MethodName := ⟨RX3, "append", "(III)I"⟩
abbrev cX3_byteOf : ByteArray := prog_5_method_3_code
def yX3_byteOf : MethodName := ⟨RX3, "byteOf", "(II)I"⟩
abbrev cX3_hasOnlySigns : ByteArray := prog_5_method_4_code
def yX3_hasOnlySigns : MethodName := ⟨RX3, "hasOnlySigns", "(I)Z"⟩
abbrev cX3_signsOf : ByteArray := prog_5_method_5_code
def yX3_signsOf : MethodName := ⟨RX3, "signsOf", "(I)I"⟩
abbrev cX3_putSigns : ByteArray := prog_5_method_6_code
def yX3_putSigns : MethodName := ⟨RX3, "putSigns", "(I)V"⟩
abbrev cX3_readTape : ByteArray := prog_5_method_7_code
def yX3_readTape : MethodName := ⟨RX3, "readTape", "()I"⟩
abbrev cX3_findWrongPlace : ByteArray := prog_5_method_8_code
def yX3_findWrongPlace : MethodName := ⟨RX3, "findWrongPlace", "()I"⟩
abbrev cX3_takeSign : ByteArray := prog_5_method_9_code
def yX3_takeSign : MethodName := ⟨RX3, "takeSign", "(I)Z"⟩
abbrev cX3_beginTemplate : ByteArray := prog_5_method_10_code
def yX3_beginTemplate : MethodName := ⟨RX3, "beginTemplate", "()Z"⟩
abbrev cX3_beginRepeat : ByteArray := prog_5_method_11_code
def yX3_beginRepeat : MethodName := ⟨RX3, "beginRepeat", "(I)Z"⟩
abbrev cX3_columnLimit : ByteArray := prog_5_method_12_code
def yX3_columnLimit : MethodName := ⟨RX3, "columnLimit", "()I"⟩
abbrev cX3_templateOf : ByteArray := prog_5_method_13_code
def yX3_templateOf : MethodName := ⟨RX3, "templateOf", "(I)I"⟩
abbrev cX3_textOf : ByteArray := prog_5_method_14_code
def yX3_textOf : MethodName := ⟨RX3, "textOf", "(II)I"⟩
def RX4 : String := "AlignRows$Row"
def TX4 : u_T := fun k => match k with
  | 0 => ("AlignRows$Row", "widths", "[I", true)
  | 1 => ("AlignRows$Row", "firsts", "[I", true)
  | 2 => ("AlignRows$Row", "spans", "[I", true)
  | 3 => ("AlignRows$Row", "entries", "I", false)
  | _ => ("AlignRows$Row", "columns", "I", false)
def tyX4 : Nat → FieldType := fun k => match k with
  | 0 => .array .int
  | 1 => .array .int
  | 2 => .array .int
  | 3 => .int
  | _ => .int
abbrev wsX40 : List Cond := u_ws RX4 TX4 5
theorem nmX4 : ∀ a, a < 5 → ∀ b, b < 5 → a ≠ b → (TX4 a).2.1 ≠ (TX4 b).2.1 := by decide +kernel
theorem tyX4_ok : ∀ k, k < 5 → parseFieldDescriptor (TX4 k).2.2.1 = some (tyX4 k) := by decide +kernel
abbrev cX4_init : ByteArray := prog_6_method_1_code
def yX4_init : MethodName := ⟨RX4, "<init>", "()V"⟩
abbrev cX4_append : ByteArray := prog_6_method_2_code
def yX4_append : MethodName := ⟨RX4, "append", "(II)V"⟩
def RX5 : String := "AlignRows$Table"
def TX5 : u_T := fun k => match k with
  | 0 => ("AlignRows$Table", "preamble", "LAlignRows$Preamble;", true)
  | 1 => ("AlignRows$Table", "glues", "[LAlignRows$Glue;", true)
  | 2 => ("AlignRows$Table", "rows", "[LAlignRows$Row;", true)
  | 3 => ("AlignRows$Table", "items", "[I", true)
  | 4 => ("AlignRows$Table", "lastRun", "LAlignRows$LastRun;", true)
  | 5 => ("AlignRows$Table", "rowCount", "I", false)
  | 6 => ("AlignRows$Table", "betweenCount", "I", false)
  | 7 => ("AlignRows$Table", "itemCount", "I", false)
  | _ => ("AlignRows$Table", "open", "Z", false)
def tyX5 : Nat → FieldType := fun k => match k with
  | 0 => .object "AlignRows$Preamble"
  | 1 => .array (.object "AlignRows$Glue")
  | 2 => .array (.object "AlignRows$Row")
  | 3 => .array .int
  | 4 => .object "AlignRows$LastRun"
  | 5 => .int
  | 6 => .int
  | 7 => .int
  | _ => .boolean
abbrev wsX50 : List Cond := u_ws RX5 TX5 9
theorem nmX5 : ∀ a, a < 9 → ∀ b, b < 9 → a ≠ b → (TX5 a).2.1 ≠ (TX5 b).2.1 := by decide +kernel
theorem tyX5_ok : ∀ k, k < 9 → parseFieldDescriptor (TX5 k).2.2.1 = some (tyX5 k) := by decide +kernel
abbrev cX5_init : ByteArray := prog_7_method_1_code
def yX5_init : MethodName := ⟨RX5, "<init>", "()V"⟩
abbrev cX5_isAtRest : ByteArray := prog_7_method_2_code
def yX5_isAtRest : MethodName := ⟨RX5, "isAtRest", "()Z"⟩
abbrev cX5_refuseGlue : ByteArray := prog_7_method_3_code
def yX5_refuseGlue : MethodName := ⟨RX5, "refuseGlue", "(I)I"⟩
abbrev cX5_openRow : ByteArray := prog_7_method_4_code
def yX5_openRow : MethodName := ⟨RX5, "openRow", "()I"⟩
abbrev cX5_addBetween : ByteArray := prog_7_method_5_code
def yX5_addBetween : MethodName := ⟨RX5, "addBetween", "()I"⟩
abbrev cX5_putItem : ByteArray := prog_7_method_6_code
def yX5_putItem : MethodName := ⟨RX5, "putItem", "(I)V"⟩
abbrev cX5_closeRow : ByteArray := prog_7_method_7_code
def yX5_closeRow : MethodName := ⟨RX5, "closeRow", "()I"⟩
abbrev cX5_addEntry : ByteArray := prog_7_method_8_code
def yX5_addEntry : MethodName := ⟨RX5, "addEntry", "(IIZ)I"⟩
abbrev cX5_hasEntry : ByteArray := prog_7_method_9_code
def yX5_hasEntry : MethodName := ⟨RX5, "hasEntry", "(II)Z"⟩
abbrev cX5_entriesOfAll : ByteArray := prog_7_method_10_code
def yX5_entriesOfAll : MethodName := ⟨RX5, "entriesOfAll", "()I"⟩
abbrev cX5_glueAt : ByteArray := prog_7_method_11_code
def yX5_glueAt : MethodName := ⟨RX5, "glueAt", "(I)LAlignRows$Glue;"⟩
abbrev cX5_tell : ByteArray := prog_7_method_12_code
def yX5_tell : MethodName := ⟨RX5, "tell", "(I)J"⟩
def RX6 : String := "AlignRows"
def TX6 : u_T := fun k => match k with
  | 0 => ("AlignRows", "tables", "[LAlignRows$Table;", true)
  | _ => ("AlignRows", "tableCount", "I", false)
def tyX6 : Nat → FieldType := fun k => match k with
  | 0 => .array (.object "AlignRows$Table")
  | _ => .int
abbrev wsX60 : List Cond := u_ws RX6 TX6 2
theorem nmX6 : ∀ a, a < 2 → ∀ b, b < 2 → a ≠ b → (TX6 a).2.1 ≠ (TX6 b).2.1 := by decide +kernel
theorem tyX6_ok : ∀ k, k < 2 → parseFieldDescriptor (TX6 k).2.2.1 = some (tyX6 k) := by decide +kernel
abbrev cX6_init : ByteArray := prog_1_method_1_code
def yX6_init : MethodName := ⟨RX6, "<init>", "()V"⟩
abbrev cX6_table : ByteArray := prog_1_method_2_code
def yX6_table : MethodName := ⟨RX6, "table", "()I"⟩
abbrev cX6_type : ByteArray := prog_1_method_3_code
def yX6_type : MethodName := ⟨RX6, "type", "(IIII)I"⟩
abbrev cX6_lay : ByteArray := prog_1_method_4_code
def yX6_lay : MethodName := ⟨RX6, "lay", "(I)I"⟩
abbrev cX6_glue : ByteArray := prog_1_method_5_code
def yX6_glue : MethodName := ⟨RX6, "glue", "(IIIII)I"⟩
abbrev cX6_shrink : ByteArray := prog_1_method_6_code
def yX6_shrink : MethodName := ⟨RX6, "shrink", "(IIII)I"⟩
abbrev cX6_row : ByteArray := prog_1_method_7_code
def yX6_row : MethodName := ⟨RX6, "row", "(I)I"⟩
abbrev cX6_entry : ByteArray := prog_1_method_8_code
def yX6_entry : MethodName := ⟨RX6, "entry", "(IIIZ)I"⟩
abbrev cX6_nest : ByteArray := prog_1_method_9_code
def yX6_nest : MethodName := ⟨RX6, "nest", "(III)I"⟩
abbrev cX6_end : ByteArray := prog_1_method_10_code
def yX6_end : MethodName := ⟨RX6, "end", "(I)I"⟩
abbrev cX6_between : ByteArray := prog_1_method_11_code
def yX6_between : MethodName := ⟨RX6, "between", "(I)I"⟩
abbrev cX6_run : ByteArray := prog_1_method_12_code
def yX6_run : MethodName := ⟨RX6, "run", "(III)J"⟩
abbrev cX6_width : ByteArray := prog_1_method_13_code
def yX6_width : MethodName := ⟨RX6, "width", "(II)I"⟩
abbrev cX6_isVoid : ByteArray := prog_1_method_14_code
def yX6_isVoid : MethodName := ⟨RX6, "isVoid", "(II)Z"⟩
abbrev cX6_place : ByteArray := prog_1_method_15_code
def yX6_place : MethodName := ⟨RX6, "place", "(II)J"⟩
abbrev cX6_at : ByteArray := prog_1_method_16_code
def yX6_at : MethodName := ⟨RX6, "at", "(IIII)J"⟩
abbrev cX6_item : ByteArray := prog_1_method_17_code
def yX6_item : MethodName := ⟨RX6, "item", "(II)I"⟩
abbrev cX6_count : ByteArray := prog_1_method_18_code
def yX6_count : MethodName := ⟨RX6, "count", "(II)J"⟩
abbrev cX6_find : ByteArray := prog_1_method_19_code
def yX6_find : MethodName := ⟨RX6, "find", "(I)LAlignRows$Table;"⟩
abbrev cX6_isIn : ByteArray := prog_1_method_20_code
def yX6_isIn : MethodName := ⟨RX6, "isIn", "(III)Z"⟩
def RX7 : String := "AlignRowsModel"
def TX7 : u_T := fun k => match k with
  | 0 => ("AlignRowsModel", "fault", "I", false)
  | 1 => ("AlignRowsModel", "tables", "I", false)
  | 2 => ("AlignRowsModel", "tape", "[I", true)
  | 3 => ("AlignRowsModel", "tapeSize", "[I", true)
  | 4 => ("AlignRowsModel", "isLaid", "[Z", true)
  | 5 => ("AlignRowsModel", "templates", "[I", true)
  | 6 => ("AlignRowsModel", "repeats", "[I", true)
  | 7 => ("AlignRowsModel", "before", "[I", true)
  | 8 => ("AlignRowsModel", "behind", "[I", true)
  | 9 => ("AlignRowsModel", "glueWidth", "[I", true)
  | 10 => ("AlignRowsModel", "stretch", "[I", true)
  | 11 => ("AlignRowsModel", "stretchOrder", "[I", true)
  | 12 => ("AlignRowsModel", "shrinks", "[I", true)
  | 13 => ("AlignRowsModel", "shrinkOrder", "[I", true)
  | 14 => ("AlignRowsModel", "rows", "[I", true)
  | 15 => ("AlignRowsModel", "isOpen", "[Z", true)
  | 16 => ("AlignRowsModel", "rowFrom", "[I", true)
  | 17 => ("AlignRowsModel", "rowSize", "[I", true)
  | 18 => ("AlignRowsModel", "entries", "[I", true)
  | 19 => ("AlignRowsModel", "wide", "[I", true)
  | 20 => ("AlignRowsModel", "first", "[I", true)
  | 21 => ("AlignRowsModel", "span", "[I", true)
  | 22 => ("AlignRowsModel", "items", "[I", true)
  | 23 => ("AlignRowsModel", "item", "[I", true)
  | 24 => ("AlignRowsModel", "betweens", "[I", true)
  | 25 => ("AlignRowsModel", "runs", "[I", true)
  | 26 => ("AlignRowsModel", "columns", "[I", true)
  | 27 => ("AlignRowsModel", "widths", "[I", true)
  | 28 => ("AlignRowsModel", "isNothing", "[Z", true)
  | 29 => ("AlignRowsModel", "places", "[J", true)
  | 30 => ("AlignRowsModel", "natural", "[J", true)
  | 31 => ("AlignRowsModel", "set", "[J", true)
  | 32 => ("AlignRowsModel", "order", "[I", true)
  | 33 => ("AlignRowsModel", "missing", "[J", true)
  | 34 => ("AlignRowsModel", "need", "[I", true)
  | 35 => ("AlignRowsModel", "from", "[I", true)
  | 36 => ("AlignRowsModel", "at", "I", false)
  | _ => ("AlignRowsModel", "wrong", "I", false)
def tyX7 : Nat → FieldType := fun k => match k with
  | 0 => .int
  | 1 => .int
  | 2 => .array .int
  | 3 => .array .int
  | 4 => .array .boolean
  | 5 => .array .int
  | 6 => .array .int
  | 7 => .array .int
  | 8 => .array .int
  | 9 => .array .int
  | 10 => .array .int
  | 11 => .array .int
  | 12 => .array .int
  | 13 => .array .int
  | 14 => .array .int
  | 15 => .array .boolean
  | 16 => .array .int
  | 17 => .array .int
  | 18 => .array .int
  | 19 => .array .int
  | 20 => .array .int
  | 21 => .array .int
  | 22 => .array .int
  | 23 => .array .int
  | 24 => .array .int
  | 25 => .array .int
  | 26 => .array .int
  | 27 => .array .int
  | 28 => .array .boolean
  | 29 => .array .long
  | 30 => .array .long
  | 31 => .array .long
  | 32 => .array .int
  | 33 => .array .long
  | 34 => .array .int
  | 35 => .array .int
  | 36 => .int
  | _ => .int
abbrev wsX70 : List Cond := u_ws RX7 TX7 38
theorem nmX7 : ∀ a, a < 38 → ∀ b, b < 38 → a ≠ b → (TX7 a).2.1 ≠ (TX7 b).2.1 := by decide +kernel
theorem tyX7_ok : ∀ k, k < 38 → parseFieldDescriptor (TX7 k).2.2.1 = some (tyX7 k) := by decide +kernel
abbrev cX7_init : ByteArray := prog_9_method_1_code
def yX7_init : MethodName := ⟨RX7, "<init>", "()V"⟩
abbrev cX7_thrown : ByteArray := prog_9_method_2_code
def yX7_thrown : MethodName := ⟨RX7, "thrown", "()I"⟩
abbrev cX7_isTable : ByteArray := prog_9_method_3_code
def yX7_isTable : MethodName := ⟨RX7, "isTable", "(I)Z"⟩
abbrev cX7_in : ByteArray := prog_9_method_4_code
def yX7_in : MethodName := ⟨RX7, "in", "(JJJ)Z"⟩
abbrev cX7_table : ByteArray := prog_9_method_5_code
def yX7_table : MethodName := ⟨RX7, "table", "()I"⟩
abbrev cX7_isLetter : ByteArray := prog_9_method_6_code
def yX7_isLetter : MethodName := ⟨RX7, "isLetter", "(I)Z"⟩
abbrev cX7_byteOf : ByteArray := prog_9_method_7_code
def yX7_byteOf : MethodName := ⟨RX7, "byteOf", "(IIII)I"⟩
abbrev cX7_type : ByteArray := prog_9_method_8_code
def yX7_type : MethodName := ⟨RX7, "type", "(IIII)I"⟩
abbrev cX7_sign : ByteArray := prog_9_method_9_code
def yX7_sign : MethodName := ⟨RX7, "sign", "(I)I"⟩
abbrev cX7_passLetters : ByteArray := prog_9_method_10_code
def yX7_passLetters : MethodName := ⟨RX7, "passLetters", "(I)I"⟩
abbrev cX7_readAll : ByteArray := prog_9_method_11_code
def yX7_readAll : MethodName := ⟨RX7, "readAll", "(I)V"⟩
abbrev cX7_lay : ByteArray := prog_9_method_12_code
def yX7_lay : MethodName := ⟨RX7, "lay", "(I)I"⟩
abbrev cX7_columnsOf : ByteArray := prog_9_method_13_code
def yX7_columnsOf : MethodName := ⟨RX7, "columnsOf", "(I)I"⟩
abbrev cX7_templateOf : ByteArray := prog_9_method_14_code
def yX7_templateOf : MethodName := ⟨RX7, "templateOf", "(II)I"⟩
abbrev cX7_wrongGlue : ByteArray := prog_9_method_15_code
def yX7_wrongGlue : MethodName := ⟨RX7, "wrongGlue", "(II)I"⟩
abbrev cX7_glue : ByteArray := prog_9_method_16_code
def yX7_glue : MethodName := ⟨RX7, "glue", "(IIIII)I"⟩
abbrev cX7_shrink : ByteArray := prog_9_method_17_code
def yX7_shrink : MethodName := ⟨RX7, "shrink", "(IIII)I"⟩
abbrev cX7_stand : ByteArray := prog_9_method_18_code
def yX7_stand : MethodName := ⟨RX7, "stand", "(II)V"⟩
abbrev cX7_row : ByteArray := prog_9_method_19_code
def yX7_row : MethodName := ⟨RX7, "row", "(I)I"⟩
abbrev cX7_free : ByteArray := prog_9_method_20_code
def yX7_free : MethodName := ⟨RX7, "free", "(I)I"⟩
abbrev cX7_add : ByteArray := prog_9_method_21_code
def yX7_add : MethodName := ⟨RX7, "add", "(III)I"⟩
abbrev cX7_entry : ByteArray := prog_9_method_22_code
def yX7_entry : MethodName := ⟨RX7, "entry", "(IIIZ)I"⟩
abbrev cX7_nest : ByteArray := prog_9_method_23_code
def yX7_nest : MethodName := ⟨RX7, "nest", "(III)I"⟩
abbrev cX7_end : ByteArray := prog_9_method_24_code
def yX7_end : MethodName := ⟨RX7, "end", "(I)I"⟩
abbrev cX7_between : ByteArray := prog_9_method_25_code
def yX7_between : MethodName := ⟨RX7, "between", "(I)I"⟩
abbrev cX7_glueBehind : ByteArray := prog_9_method_26_code
def yX7_glueBehind : MethodName := ⟨RX7, "glueBehind", "(II)I"⟩
abbrev cX7_findWidths : ByteArray := prog_9_method_27_code
def yX7_findWidths : MethodName := ⟨RX7, "findWidths", "(I)V"⟩
abbrev cX7_gives : ByteArray := prog_9_method_28_code
def yX7_gives : MethodName := ⟨RX7, "gives", "(IIZI)J"⟩
abbrev cX7_sumOf : ByteArray := prog_9_method_29_code
def yX7_sumOf : MethodName := ⟨RX7, "sumOf", "(IIZI)J"⟩
abbrev cX7_widthOfGlue : ByteArray := prog_9_method_30_code
def yX7_widthOfGlue : MethodName := ⟨RX7, "widthOfGlue", "(II)J"⟩
abbrev cX7_run : ByteArray := prog_9_method_31_code
def yX7_run : MethodName := ⟨RX7, "run", "(III)J"⟩
abbrev cX7_share : ByteArray := prog_9_method_32_code
def yX7_share : MethodName := ⟨RX7, "share", "(I)V"⟩
abbrev cX7_isColumn : ByteArray := prog_9_method_33_code
def yX7_isColumn : MethodName := ⟨RX7, "isColumn", "(II)Z"⟩
abbrev cX7_width : ByteArray := prog_9_method_34_code
def yX7_width : MethodName := ⟨RX7, "width", "(II)I"⟩
abbrev cX7_isVoid : ByteArray := prog_9_method_35_code
def yX7_isVoid : MethodName := ⟨RX7, "isVoid", "(II)Z"⟩
abbrev cX7_place : ByteArray := prog_9_method_36_code
def yX7_place : MethodName := ⟨RX7, "place", "(II)J"⟩
abbrev cX7_at : ByteArray := prog_9_method_37_code
def yX7_at : MethodName := ⟨RX7, "at", "(IIII)J"⟩
abbrev cX7_item : ByteArray := prog_9_method_38_code
def yX7_item : MethodName := ⟨RX7, "item", "(II)I"⟩
abbrev cX7_count : ByteArray := prog_9_method_39_code
def yX7_count : MethodName := ⟨RX7, "count", "(II)J"⟩
def RJx145de : String := "java/io/Serializable"
def TJx145de : u_T := fun k => match k with
  | _ => ("", "", "", false)
def tyJx145de : Nat → FieldType := fun k => match k with
  | _ => .int
abbrev wsJx145de0 : List Cond := u_ws RJx145de TJx145de 0
theorem nmJx145de : ∀ a, a < 0 → ∀ b, b < 0 → a ≠ b → (TJx145de a).2.1 ≠ (TJx145de b).2.1 := by decide +kernel
theorem tyJx145de_ok : ∀ k, k < 0 → parseFieldDescriptor (TJx145de k).2.2.1 = some (tyJx145de k) := by decide +kernel
def RJx00060 : String := "java/lang/ArrayIndexOutOfBoundsException"
def TJx00060 : u_T := fun k => match k with
  | 0 => ("java/lang/Throwable", "backtrace", "Ljava/lang/Object;", false)
  | 1 => ("java/lang/Throwable", "detailMessage", "Ljava/lang/String;", false)
  | 2 => ("java/lang/Throwable", "cause", "Ljava/lang/Throwable;", false)
  | 3 => ("java/lang/Throwable", "stackTrace", "[Ljava/lang/StackTraceElement;", false)
  | 4 => ("java/lang/Throwable", "depth", "I", false)
  | _ => ("java/lang/Throwable", "suppressedExceptions", "Ljava/util/List;", false)
def tyJx00060 : Nat → FieldType := fun k => match k with
  | 0 => .object "java/lang/Object"
  | 1 => .object "java/lang/String"
  | 2 => .object "java/lang/Throwable"
  | 3 => .array (.object "java/lang/StackTraceElement")
  | 4 => .int
  | _ => .object "java/util/List"
abbrev wsJx000600 : List Cond := u_ws RJx00060 TJx00060 6
theorem nmJx00060 : ∀ a, a < 6 → ∀ b, b < 6 → a ≠ b → (TJx00060 a).2.1 ≠ (TJx00060 b).2.1 := by decide +kernel
theorem tyJx00060_ok : ∀ k, k < 6 → parseFieldDescriptor (TJx00060 k).2.2.1 = some (tyJx00060 k) := by decide +kernel
abbrev cJx00060_init_da8c8 : ByteArray := prog_10_method_1_code
def yJx00060_init_da8c8 : MethodName := ⟨RJx00060, "<init>", "()V"⟩
abbrev cJx00060_init_a7421 : ByteArray := prog_10_method_2_code
def yJx00060_init_a7421 : MethodName := ⟨RJx00060, "<init>", "(Ljava/lang/String;)V"⟩
def RJ9 : String := "java/lang/Math"
def TJ9 : u_T := fun k => match k with
  | _ => ("", "", "", false)
def tyJ9 : Nat → FieldType := fun k => match k with
  | _ => .int
abbrev wsJ90 : List Cond := u_ws RJ9 TJ9 0
theorem nmJ9 : ∀ a, a < 0 → ∀ b, b < 0 → a ≠ b → (TJ9 a).2.1 ≠ (TJ9 b).2.1 := by decide +kernel
theorem tyJ9_ok : ∀ k, k < 0 → parseFieldDescriptor (TJ9 k).2.2.1 = some (tyJ9 k) := by decide +kernel
abbrev cJ9_abs_067f4 : ByteArray := prog_13_method_61_code
def yJ9_abs_067f4 : MethodName := ⟨RJ9, "abs", "(J)J"⟩
abbrev cJ9_max_7cf53 : ByteArray := prog_13_method_65_code
def yJ9_max_7cf53 : MethodName := ⟨RJ9, "max", "(II)I"⟩
abbrev cJ9_min_f86c9 : ByteArray := prog_13_method_70_code
def yJ9_min_f86c9 : MethodName := ⟨RJ9, "min", "(JJ)J"⟩
def RJ0 : String := "java/lang/String"
def TJ0 : u_T := fun k => match k with
  | 0 => ("java/lang/String", "value", "[B", true)
  | _ => ("java/lang/String", "coder", "B", true)
def tyJ0 : Nat → FieldType := fun k => match k with
  | 0 => .array .byte
  | _ => .byte
abbrev wsJ00 : List Cond := u_ws RJ0 TJ0 2
theorem nmJ0 : ∀ a, a < 2 → ∀ b, b < 2 → a ≠ b → (TJ0 a).2.1 ≠ (TJ0 b).2.1 := by decide +kernel
theorem tyJ0_ok : ∀ k, k < 2 → parseFieldDescriptor (TJ0 k).2.2.1 = some (tyJ0 k) := by decide +kernel
def RJ7 : String := "java/util/Arrays"
def TJ7 : u_T := fun k => match k with
  | _ => ("", "", "", false)
def tyJ7 : Nat → FieldType := fun k => match k with
  | _ => .int
abbrev wsJ70 : List Cond := u_ws RJ7 TJ7 0
theorem nmJ7 : ∀ a, a < 0 → ∀ b, b < 0 → a ≠ b → (TJ7 a).2.1 ≠ (TJ7 b).2.1 := by decide +kernel
theorem tyJ7_ok : ∀ k, k < 0 → parseFieldDescriptor (TJ7 k).2.2.1 = some (tyJ7 k) := by decide +kernel
abbrev cJ7_fill_53178 : ByteArray := prog_17_method_103_code
def yJ7_fill_53178 : MethodName := ⟨RJ7, "fill", "([II)V"⟩
def RL : String := "AlignRowsLaw"
abbrev cL_place : ByteArray := method_3_code
def yL_place : MethodName := ⟨RL, "place", "(LAlignRows;II[J)I"⟩
abbrev cL_at : ByteArray := method_4_code
def yL_at : MethodName := ⟨RL, "at", "(LAlignRows;IIII[J)I"⟩
abbrev cL_item : ByteArray := method_5_code
def yL_item : MethodName := ⟨RL, "item", "(LAlignRows;II[J)I"⟩
abbrev cL_count : ByteArray := method_6_code
def yL_count : MethodName := ⟨RL, "count", "(LAlignRows;II[J)I"⟩
abbrev cL_law : ByteArray := code
def yL_law : MethodName := ⟨RL, "law", "([I)Z"⟩
abbrev vwCl : List vw_C := [(RJ0, TJ0, 2), (RJx00060, TJx00060, 6), (RX0, TX0, 5), (RX1, TX1, 13), (RX2, TX2, 1), (RX3, TX3, 8), (RX4, TX4, 5), (RX5, TX5, 9), (RX6, TX6, 2), (RX7, TX7, 38)]
/-! ===== END printed: names ===== -/
end
section
/-! the words, by their places in lw_tbl (by program, wip/whole/words.py) -/
def wsA : List Cond := lw_tbl.filter goodWord
theorem wsA_k {w : Cond} (i : Nat) (h : lw_tbl[i]? = some w) (g : goodWord w = true) : w ∈ wsA := List.mem_filter.mpr ⟨List.mem_of_getElem? h, g⟩
theorem wsA_r (ws : List Cond) (ps : List Nat) (hp : ws = ps.filterMap (fun i => lw_tbl[i]?)) (h : ws.all goodWord = true) : ∀ w ∈ ws, w ∈ wsA := by
  intro w hw
  have h1 := List.all_eq_true.mp h w hw
  rw [hp] at hw
  obtain ⟨i, -, hi⟩ := List.mem_filterMap.mp hw
  exact wsA_k i hi h1
theorem wsA_G {ws : List Cond} (h : ∀ w ∈ ws, w ∈ wsA) : GoodIn wsA ws := fun w hw => ⟨h w hw, good_of_word (List.mem_filter.mp (h w hw)).2⟩
theorem wsA_tbl : ∀ w ∈ wsA, w ∈ lw_tbl := fun _ h => (List.mem_filter.mp h).1
theorem k_0 : (Cond.selects RX6 yX6_find yX6_find) ∈ wsA := wsA_k 0 (by decide +kernel) (by decide +kernel)
theorem k_1 : (Cond.selects RX3 yX3_putSigns yX3_putSigns) ∈ wsA := wsA_k 1 (by decide +kernel) (by decide +kernel)
theorem k_2 : (Cond.selects RX3 yX3_findWrongPlace yX3_findWrongPlace) ∈ wsA := wsA_k 2 (by decide +kernel) (by decide +kernel)
theorem k_3 : (Cond.selects RX3 yX3_takeSign yX3_takeSign) ∈ wsA := wsA_k 3 (by decide +kernel) (by decide +kernel)
theorem k_4 : (Cond.selects RX3 yX3_beginTemplate yX3_beginTemplate) ∈ wsA := wsA_k 4 (by decide +kernel) (by decide +kernel)
theorem k_5 : (Cond.selects RX3 yX3_beginRepeat yX3_beginRepeat) ∈ wsA := wsA_k 5 (by decide +kernel) (by decide +kernel)
theorem k_6 : (Cond.selects RX5 yX5_putItem yX5_putItem) ∈ wsA := wsA_k 6 (by decide +kernel) (by decide +kernel)
theorem k_7 : (Cond.selects RX1 yX1_gatherNeeds yX1_gatherNeeds) ∈ wsA := wsA_k 7 (by decide +kernel) (by decide +kernel)
theorem k_8 : (Cond.selects RX1 yX1_findWidths yX1_findWidths) ∈ wsA := wsA_k 8 (by decide +kernel) (by decide +kernel)
theorem k_9 : (Cond.selects RX1 yX1_naturalWidth yX1_naturalWidth) ∈ wsA := wsA_k 9 (by decide +kernel) (by decide +kernel)
theorem k_10 : (Cond.selects RX1 yX1_gatherGives yX1_gatherGives) ∈ wsA := wsA_k 10 (by decide +kernel) (by decide +kernel)
theorem k_11 : (Cond.selects RX1 yX1_greatestOrder yX1_greatestOrder) ∈ wsA := wsA_k 11 (by decide +kernel) (by decide +kernel)
theorem k_12 : (Cond.selects RX1 yX1_share yX1_share) ∈ wsA := wsA_k 12 (by decide +kernel) (by decide +kernel)
theorem k_13 : (Cond.selects RX1 yX1_wholeSum yX1_wholeSum) ∈ wsA := wsA_k 13 (by decide +kernel) (by decide +kernel)
theorem k_14 : (Cond.selects RX1 yX1_giveOf yX1_giveOf) ∈ wsA := wsA_k 14 (by decide +kernel) (by decide +kernel)
theorem k_15 : (Cond.selects RX1 yX1_findPlaces yX1_findPlaces) ∈ wsA := wsA_k 15 (by decide +kernel) (by decide +kernel)
theorem k_17 : (Cond.selects RX7 yX7_isTable yX7_isTable) ∈ wsA := wsA_k 17 (by decide +kernel) (by decide +kernel)
theorem k_18 : (Cond.selects RX7 yX7_readAll yX7_readAll) ∈ wsA := wsA_k 18 (by decide +kernel) (by decide +kernel)
theorem k_19 : (Cond.selects RX7 yX7_sign yX7_sign) ∈ wsA := wsA_k 19 (by decide +kernel) (by decide +kernel)
theorem k_20 : (Cond.selects RX7 yX7_passLetters yX7_passLetters) ∈ wsA := wsA_k 20 (by decide +kernel) (by decide +kernel)
theorem k_21 : (Cond.selects RX7 yX7_wrongGlue yX7_wrongGlue) ∈ wsA := wsA_k 21 (by decide +kernel) (by decide +kernel)
theorem k_22 : (Cond.selects RX7 yX7_stand yX7_stand) ∈ wsA := wsA_k 22 (by decide +kernel) (by decide +kernel)
theorem k_23 : (Cond.selects RX7 yX7_free yX7_free) ∈ wsA := wsA_k 23 (by decide +kernel) (by decide +kernel)
theorem k_24 : (Cond.selects RX7 yX7_columnsOf yX7_columnsOf) ∈ wsA := wsA_k 24 (by decide +kernel) (by decide +kernel)
theorem k_25 : (Cond.selects RX7 yX7_templateOf yX7_templateOf) ∈ wsA := wsA_k 25 (by decide +kernel) (by decide +kernel)
theorem k_26 : (Cond.selects RX7 yX7_add yX7_add) ∈ wsA := wsA_k 26 (by decide +kernel) (by decide +kernel)
theorem k_27 : (Cond.selects RX7 yX7_findWidths yX7_findWidths) ∈ wsA := wsA_k 27 (by decide +kernel) (by decide +kernel)
theorem k_28 : (Cond.selects RX7 yX7_glueBehind yX7_glueBehind) ∈ wsA := wsA_k 28 (by decide +kernel) (by decide +kernel)
theorem k_29 : (Cond.selects RX7 yX7_widthOfGlue yX7_widthOfGlue) ∈ wsA := wsA_k 29 (by decide +kernel) (by decide +kernel)
theorem k_30 : (Cond.selects RX7 yX7_share yX7_share) ∈ wsA := wsA_k 30 (by decide +kernel) (by decide +kernel)
theorem k_31 : (Cond.selects RX7 yX7_sumOf yX7_sumOf) ∈ wsA := wsA_k 31 (by decide +kernel) (by decide +kernel)
theorem k_32 : (Cond.selects RX7 yX7_gives yX7_gives) ∈ wsA := wsA_k 32 (by decide +kernel) (by decide +kernel)
theorem k_33 : (Cond.selects RX7 yX7_isColumn yX7_isColumn) ∈ wsA := wsA_k 33 (by decide +kernel) (by decide +kernel)
theorem k_34 : (Cond.initialized RL) ∈ wsA := wsA_k 34 (by decide +kernel) (by decide +kernel)
theorem k_35 : (Cond.initialized RX6) ∈ wsA := wsA_k 35 (by decide +kernel) (by decide +kernel)
theorem k_36 : (Cond.initialized RX7) ∈ wsA := wsA_k 36 (by decide +kernel) (by decide +kernel)
theorem k_37 : (Cond.initialized RX5) ∈ wsA := wsA_k 37 (by decide +kernel) (by decide +kernel)
theorem k_38 : (Cond.initialized RX3) ∈ wsA := wsA_k 38 (by decide +kernel) (by decide +kernel)
theorem k_39 : (Cond.initialized RX1) ∈ wsA := wsA_k 39 (by decide +kernel) (by decide +kernel)
theorem k_40 : (Cond.initialized RX2) ∈ wsA := wsA_k 40 (by decide +kernel) (by decide +kernel)
theorem k_41 : (Cond.initialized RX0) ∈ wsA := wsA_k 41 (by decide +kernel) (by decide +kernel)
theorem k_42 : (Cond.initialized RX4) ∈ wsA := wsA_k 42 (by decide +kernel) (by decide +kernel)
theorem k_43 : (Cond.initialized RJ7) ∈ wsA := wsA_k 43 (by decide +kernel) (by decide +kernel)
theorem k_44 : (Cond.initialized RJ9) ∈ wsA := wsA_k 44 (by decide +kernel) (by decide +kernel)
theorem k_45 : (Cond.initialized "java/lang/Throwable") ∈ wsA := wsA_k 45 (by decide +kernel) (by decide +kernel)
theorem k_46 : (Cond.initialized "java/lang/Exception") ∈ wsA := wsA_k 46 (by decide +kernel) (by decide +kernel)
theorem k_47 : (Cond.initialized "java/lang/RuntimeException") ∈ wsA := wsA_k 47 (by decide +kernel) (by decide +kernel)
theorem k_48 : (Cond.initialized "java/lang/IndexOutOfBoundsException") ∈ wsA := wsA_k 48 (by decide +kernel) (by decide +kernel)
theorem k_49 : (Cond.initialized RJx00060) ∈ wsA := wsA_k 49 (by decide +kernel) (by decide +kernel)
theorem k_50 : (Cond.initialized RJ0) ∈ wsA := wsA_k 50 (by decide +kernel) (by decide +kernel)
theorem k_51 : (Cond.classLink RL 8 RX6) ∈ wsA := wsA_k 51 (by decide +kernel) (by decide +kernel)
theorem k_52 : (Cond.instantiable RX6 2) ∈ wsA := wsA_k 52 (by decide +kernel) (by decide +kernel)
theorem k_53 : (Cond.methodLink RL 26 yX6_init) ∈ wsA := wsA_k 53 (by decide +kernel) (by decide +kernel)
theorem k_54 : (Cond.instanceMethod yX6_init) ∈ wsA := wsA_k 54 (by decide +kernel) (by decide +kernel)
theorem k_59 : (Cond.classLink RX6 9 RX5) ∈ wsA := wsA_k 59 (by decide +kernel) (by decide +kernel)
theorem k_61 : (Cond.fieldLink RX6 11 "AlignRows" "tables" "[LAlignRows$Table;") ∈ wsA := wsA_k 61 (by decide +kernel) (by decide +kernel)
theorem k_62 : (Cond.fieldLink RX6 15 "AlignRows" "tableCount" "I") ∈ wsA := wsA_k 62 (by decide +kernel) (by decide +kernel)
theorem k_68 : (Cond.methodLink RL 30 yX6_table) ∈ wsA := wsA_k 68 (by decide +kernel) (by decide +kernel)
theorem k_69 : (Cond.instanceMethod yX6_table) ∈ wsA := wsA_k 69 (by decide +kernel) (by decide +kernel)
theorem k_70 : (Cond.selects RX6 yX6_table yX6_table) ∈ wsA := wsA_k 70 (by decide +kernel) (by decide +kernel)
theorem k_71 : (Cond.code yX6_table cX6_table 1 (some .int)) ∈ wsA := wsA_k 71 (by decide +kernel) (by decide +kernel)
theorem k_72 : (Cond.instantiable RX5 9) ∈ wsA := wsA_k 72 (by decide +kernel) (by decide +kernel)
theorem k_73 : (Cond.methodLink RX6 19 yX5_init) ∈ wsA := wsA_k 73 (by decide +kernel) (by decide +kernel)
theorem k_74 : (Cond.instanceMethod yX5_init) ∈ wsA := wsA_k 74 (by decide +kernel) (by decide +kernel)
theorem k_77 : (Cond.classLink RX5 9 RX3) ∈ wsA := wsA_k 77 (by decide +kernel) (by decide +kernel)
theorem k_78 : (Cond.instantiable RX3 8) ∈ wsA := wsA_k 78 (by decide +kernel) (by decide +kernel)
theorem k_80 : (Cond.instanceMethod yX3_init) ∈ wsA := wsA_k 80 (by decide +kernel) (by decide +kernel)
theorem k_83 : (Cond.fieldLink RX3 9 "AlignRows$Preamble" "tape" "[C") ∈ wsA := wsA_k 83 (by decide +kernel) (by decide +kernel)
theorem k_84 : (Cond.fieldLink RX3 15 "AlignRows$Preamble" "before" "[I") ∈ wsA := wsA_k 84 (by decide +kernel) (by decide +kernel)
theorem k_85 : (Cond.fieldLink RX3 19 "AlignRows$Preamble" "behind" "[I") ∈ wsA := wsA_k 85 (by decide +kernel) (by decide +kernel)
theorem k_86 : (Cond.fieldLink RX3 22 "AlignRows$Preamble" "length" "I") ∈ wsA := wsA_k 86 (by decide +kernel) (by decide +kernel)
theorem k_88 : (Cond.fieldLink RX3 26 "AlignRows$Preamble" "laid" "Z") ∈ wsA := wsA_k 88 (by decide +kernel) (by decide +kernel)
theorem k_90 : (Cond.fieldLink RX3 30 "AlignRows$Preamble" "templates" "I") ∈ wsA := wsA_k 90 (by decide +kernel) (by decide +kernel)
theorem k_93 : (Cond.fieldLink RX3 33 "AlignRows$Preamble" "repeatFrom" "I") ∈ wsA := wsA_k 93 (by decide +kernel) (by decide +kernel)
theorem k_95 : (Cond.fieldLink RX3 36 "AlignRows$Preamble" "marked" "Z") ∈ wsA := wsA_k 95 (by decide +kernel) (by decide +kernel)
theorem k_113 : (Cond.arrayClass .char) ∈ wsA := wsA_k 113 (by decide +kernel) (by decide +kernel)
theorem k_114 : (Cond.arrayClass .int) ∈ wsA := wsA_k 114 (by decide +kernel) (by decide +kernel)
theorem k_115 : (Cond.classLink RX5 18 RX0) ∈ wsA := wsA_k 115 (by decide +kernel) (by decide +kernel)
theorem k_117 : (Cond.classLink RX5 24 RX4) ∈ wsA := wsA_k 117 (by decide +kernel) (by decide +kernel)
theorem k_119 : (Cond.classLink RX5 34 RX1) ∈ wsA := wsA_k 119 (by decide +kernel) (by decide +kernel)
theorem k_120 : (Cond.instantiable RX1 13) ∈ wsA := wsA_k 120 (by decide +kernel) (by decide +kernel)
theorem k_122 : (Cond.instanceMethod yX1_init) ∈ wsA := wsA_k 122 (by decide +kernel) (by decide +kernel)
theorem k_125 : (Cond.classLink RX1 32 RX2) ∈ wsA := wsA_k 125 (by decide +kernel) (by decide +kernel)
theorem k_126 : (Cond.instantiable RX2 1) ∈ wsA := wsA_k 126 (by decide +kernel) (by decide +kernel)
theorem k_128 : (Cond.instanceMethod yX2_init) ∈ wsA := wsA_k 128 (by decide +kernel) (by decide +kernel)
theorem k_131 : (Cond.classLink RX2 9 "[[I") ∈ wsA := wsA_k 131 (by decide +kernel) (by decide +kernel)
theorem k_133 : (Cond.fieldLink RX2 11 "AlignRows$Needs" "greatest" "[[I") ∈ wsA := wsA_k 133 (by decide +kernel) (by decide +kernel)
theorem k_137 : (Cond.arrayClass .boolean) ∈ wsA := wsA_k 137 (by decide +kernel) (by decide +kernel)
theorem k_138 : (Cond.arrayClass .long) ∈ wsA := wsA_k 138 (by decide +kernel) (by decide +kernel)
theorem k_139 : (Cond.fieldLink RX1 9 "AlignRows$LastRun" "widths" "[I") ∈ wsA := wsA_k 139 (by decide +kernel) (by decide +kernel)
theorem k_141 : (Cond.fieldLink RX1 15 "AlignRows$LastRun" "voids" "[Z") ∈ wsA := wsA_k 141 (by decide +kernel) (by decide +kernel)
theorem k_143 : (Cond.fieldLink RX1 19 "AlignRows$LastRun" "places" "[J") ∈ wsA := wsA_k 143 (by decide +kernel) (by decide +kernel)
theorem k_145 : (Cond.fieldLink RX1 23 "AlignRows$LastRun" "glueWidths" "[I") ∈ wsA := wsA_k 145 (by decide +kernel) (by decide +kernel)
theorem k_146 : (Cond.fieldLink RX1 26 "AlignRows$LastRun" "gives" "[I") ∈ wsA := wsA_k 146 (by decide +kernel) (by decide +kernel)
theorem k_147 : (Cond.fieldLink RX1 29 "AlignRows$LastRun" "giveOrders" "[I") ∈ wsA := wsA_k 147 (by decide +kernel) (by decide +kernel)
theorem k_148 : (Cond.fieldLink RX1 35 "AlignRows$LastRun" "needs" "LAlignRows$Needs;") ∈ wsA := wsA_k 148 (by decide +kernel) (by decide +kernel)
theorem k_149 : (Cond.fieldLink RX1 39 "AlignRows$LastRun" "runs" "I") ∈ wsA := wsA_k 149 (by decide +kernel) (by decide +kernel)
theorem k_150 : (Cond.fieldLink RX1 43 "AlignRows$LastRun" "columns" "I") ∈ wsA := wsA_k 150 (by decide +kernel) (by decide +kernel)
theorem k_151 : (Cond.fieldLink RX1 46 "AlignRows$LastRun" "natural" "J") ∈ wsA := wsA_k 151 (by decide +kernel) (by decide +kernel)
theorem k_152 : (Cond.fieldLink RX1 50 "AlignRows$LastRun" "excess" "J") ∈ wsA := wsA_k 152 (by decide +kernel) (by decide +kernel)
theorem k_153 : (Cond.fieldLink RX1 53 "AlignRows$LastRun" "order" "I") ∈ wsA := wsA_k 153 (by decide +kernel) (by decide +kernel)
theorem k_154 : (Cond.fieldLink RX1 56 "AlignRows$LastRun" "missing" "J") ∈ wsA := wsA_k 154 (by decide +kernel) (by decide +kernel)
theorem k_182 : (Cond.instantiable RX0 5) ∈ wsA := wsA_k 182 (by decide +kernel) (by decide +kernel)
theorem k_184 : (Cond.instanceMethod yX0_init) ∈ wsA := wsA_k 184 (by decide +kernel) (by decide +kernel)
theorem k_187 : (Cond.fieldLink RX0 7 "AlignRows$Glue" "width" "I") ∈ wsA := wsA_k 187 (by decide +kernel) (by decide +kernel)
theorem k_189 : (Cond.fieldLink RX0 13 "AlignRows$Glue" "stretch" "I") ∈ wsA := wsA_k 189 (by decide +kernel) (by decide +kernel)
theorem k_191 : (Cond.fieldLink RX0 16 "AlignRows$Glue" "stretchOrder" "I") ∈ wsA := wsA_k 191 (by decide +kernel) (by decide +kernel)
theorem k_193 : (Cond.fieldLink RX0 19 "AlignRows$Glue" "shrink" "I") ∈ wsA := wsA_k 193 (by decide +kernel) (by decide +kernel)
theorem k_195 : (Cond.fieldLink RX0 22 "AlignRows$Glue" "shrinkOrder" "I") ∈ wsA := wsA_k 195 (by decide +kernel) (by decide +kernel)
theorem k_208 : (Cond.instantiable RX4 5) ∈ wsA := wsA_k 208 (by decide +kernel) (by decide +kernel)
theorem k_210 : (Cond.instanceMethod yX4_init) ∈ wsA := wsA_k 210 (by decide +kernel) (by decide +kernel)
theorem k_213 : (Cond.fieldLink RX4 9 "AlignRows$Row" "widths" "[I") ∈ wsA := wsA_k 213 (by decide +kernel) (by decide +kernel)
theorem k_216 : (Cond.fieldLink RX4 15 "AlignRows$Row" "firsts" "[I") ∈ wsA := wsA_k 216 (by decide +kernel) (by decide +kernel)
theorem k_219 : (Cond.fieldLink RX4 18 "AlignRows$Row" "spans" "[I") ∈ wsA := wsA_k 219 (by decide +kernel) (by decide +kernel)
theorem k_222 : (Cond.fieldLink RX4 21 "AlignRows$Row" "entries" "I") ∈ wsA := wsA_k 222 (by decide +kernel) (by decide +kernel)
theorem k_225 : (Cond.fieldLink RX4 25 "AlignRows$Row" "columns" "I") ∈ wsA := wsA_k 225 (by decide +kernel) (by decide +kernel)
theorem k_239 : (Cond.fieldLink RX5 12 "AlignRows$Table" "preamble" "LAlignRows$Preamble;") ∈ wsA := wsA_k 239 (by decide +kernel) (by decide +kernel)
theorem k_242 : (Cond.fieldLink RX5 20 "AlignRows$Table" "glues" "[LAlignRows$Glue;") ∈ wsA := wsA_k 242 (by decide +kernel) (by decide +kernel)
theorem k_244 : (Cond.fieldLink RX5 26 "AlignRows$Table" "rows" "[LAlignRows$Row;") ∈ wsA := wsA_k 244 (by decide +kernel) (by decide +kernel)
theorem k_247 : (Cond.fieldLink RX5 30 "AlignRows$Table" "items" "[I") ∈ wsA := wsA_k 247 (by decide +kernel) (by decide +kernel)
theorem k_249 : (Cond.fieldLink RX5 37 "AlignRows$Table" "lastRun" "LAlignRows$LastRun;") ∈ wsA := wsA_k 249 (by decide +kernel) (by decide +kernel)
theorem k_251 : (Cond.fieldLink RX5 41 "AlignRows$Table" "rowCount" "I") ∈ wsA := wsA_k 251 (by decide +kernel) (by decide +kernel)
theorem k_253 : (Cond.fieldLink RX5 45 "AlignRows$Table" "betweenCount" "I") ∈ wsA := wsA_k 253 (by decide +kernel) (by decide +kernel)
theorem k_254 : (Cond.fieldLink RX5 48 "AlignRows$Table" "itemCount" "I") ∈ wsA := wsA_k 254 (by decide +kernel) (by decide +kernel)
theorem k_256 : (Cond.fieldLink RX5 51 "AlignRows$Table" "open" "Z") ∈ wsA := wsA_k 256 (by decide +kernel) (by decide +kernel)
theorem k_277 : (Cond.methodLink RL 35 yX6_type) ∈ wsA := wsA_k 277 (by decide +kernel) (by decide +kernel)
theorem k_278 : (Cond.instanceMethod yX6_type) ∈ wsA := wsA_k 278 (by decide +kernel) (by decide +kernel)
theorem k_279 : (Cond.selects RX6 yX6_type yX6_type) ∈ wsA := wsA_k 279 (by decide +kernel) (by decide +kernel)
theorem k_280 : (Cond.code yX6_type cX6_type 6 (some .int)) ∈ wsA := wsA_k 280 (by decide +kernel) (by decide +kernel)
theorem k_281 : (Cond.methodLink RX6 20 yX6_find) ∈ wsA := wsA_k 281 (by decide +kernel) (by decide +kernel)
theorem k_283 : (Cond.instanceMethod yX6_find) ∈ wsA := wsA_k 283 (by decide +kernel) (by decide +kernel)
theorem k_284 : (Cond.code yX6_find cX6_find 2 (some (.object "AlignRows$Table"))) ∈ wsA := wsA_k 284 (by decide +kernel) (by decide +kernel)
theorem k_285 : (Cond.methodLink RX6 42 yX6_isIn) ∈ wsA := wsA_k 285 (by decide +kernel) (by decide +kernel)
theorem k_286 : (Cond.static yX6_isIn) ∈ wsA := wsA_k 286 (by decide +kernel) (by decide +kernel)
theorem k_287 : (Cond.code yX6_isIn cX6_isIn 3 (some .boolean)) ∈ wsA := wsA_k 287 (by decide +kernel) (by decide +kernel)
theorem k_288 : (Cond.methodLink RX6 28 yX3_append) ∈ wsA := wsA_k 288 (by decide +kernel) (by decide +kernel)
theorem k_289 : (Cond.instanceMethod yX3_append) ∈ wsA := wsA_k 289 (by decide +kernel) (by decide +kernel)
theorem k_290 : (Cond.selects RX3 yX3_append yX3_append) ∈ wsA := wsA_k 290 (by decide +kernel) (by decide +kernel)
theorem k_291 : (Cond.code yX3_append cX3_append 4 (some .int)) ∈ wsA := wsA_k 291 (by decide +kernel) (by decide +kernel)
theorem k_292 : (Cond.methodLink RX3 39 yX3_hasOnlySigns) ∈ wsA := wsA_k 292 (by decide +kernel) (by decide +kernel)
theorem k_293 : (Cond.static yX3_hasOnlySigns) ∈ wsA := wsA_k 293 (by decide +kernel) (by decide +kernel)
theorem k_294 : (Cond.code yX3_hasOnlySigns cX3_hasOnlySigns 3 (some .boolean)) ∈ wsA := wsA_k 294 (by decide +kernel) (by decide +kernel)
theorem k_295 : (Cond.methodLink RX3 51 yX3_byteOf) ∈ wsA := wsA_k 295 (by decide +kernel) (by decide +kernel)
theorem k_296 : (Cond.static yX3_byteOf) ∈ wsA := wsA_k 296 (by decide +kernel) (by decide +kernel)
theorem k_297 : (Cond.code yX3_byteOf cX3_byteOf 2 (some .int)) ∈ wsA := wsA_k 297 (by decide +kernel) (by decide +kernel)
theorem k_299 : (Cond.methodLink RX3 43 yX3_signsOf) ∈ wsA := wsA_k 299 (by decide +kernel) (by decide +kernel)
theorem k_300 : (Cond.static yX3_signsOf) ∈ wsA := wsA_k 300 (by decide +kernel) (by decide +kernel)
theorem k_301 : (Cond.code yX3_signsOf cX3_signsOf 3 (some .int)) ∈ wsA := wsA_k 301 (by decide +kernel) (by decide +kernel)
theorem k_302 : (Cond.methodLink RX3 47 yX3_putSigns) ∈ wsA := wsA_k 302 (by decide +kernel) (by decide +kernel)
theorem k_304 : (Cond.instanceMethod yX3_putSigns) ∈ wsA := wsA_k 304 (by decide +kernel) (by decide +kernel)
theorem k_306 : (Cond.methodLink RL 40 yX6_lay) ∈ wsA := wsA_k 306 (by decide +kernel) (by decide +kernel)
theorem k_307 : (Cond.instanceMethod yX6_lay) ∈ wsA := wsA_k 307 (by decide +kernel) (by decide +kernel)
theorem k_308 : (Cond.selects RX6 yX6_lay yX6_lay) ∈ wsA := wsA_k 308 (by decide +kernel) (by decide +kernel)
theorem k_309 : (Cond.code yX6_lay cX6_lay 3 (some .int)) ∈ wsA := wsA_k 309 (by decide +kernel) (by decide +kernel)
theorem k_310 : (Cond.methodLink RX6 34 yX3_readTape) ∈ wsA := wsA_k 310 (by decide +kernel) (by decide +kernel)
theorem k_311 : (Cond.instanceMethod yX3_readTape) ∈ wsA := wsA_k 311 (by decide +kernel) (by decide +kernel)
theorem k_312 : (Cond.selects RX3 yX3_readTape yX3_readTape) ∈ wsA := wsA_k 312 (by decide +kernel) (by decide +kernel)
theorem k_313 : (Cond.code yX3_readTape cX3_readTape 2 (some .int)) ∈ wsA := wsA_k 313 (by decide +kernel) (by decide +kernel)
theorem k_314 : (Cond.methodLink RX3 59 yX3_findWrongPlace) ∈ wsA := wsA_k 314 (by decide +kernel) (by decide +kernel)
theorem k_316 : (Cond.instanceMethod yX3_findWrongPlace) ∈ wsA := wsA_k 316 (by decide +kernel) (by decide +kernel)
theorem k_317 : (Cond.code yX3_findWrongPlace cX3_findWrongPlace 2 (some .int)) ∈ wsA := wsA_k 317 (by decide +kernel) (by decide +kernel)
theorem k_318 : (Cond.methodLink RX3 63 yJ7_fill_53178) ∈ wsA := wsA_k 318 (by decide +kernel) (by decide +kernel)
theorem k_319 : (Cond.static yJ7_fill_53178) ∈ wsA := wsA_k 319 (by decide +kernel) (by decide +kernel)
theorem k_321 : (Cond.methodLink RX3 69 yX3_takeSign) ∈ wsA := wsA_k 321 (by decide +kernel) (by decide +kernel)
theorem k_323 : (Cond.instanceMethod yX3_takeSign) ∈ wsA := wsA_k 323 (by decide +kernel) (by decide +kernel)
theorem k_324 : (Cond.code yX3_takeSign cX3_takeSign 4 (some .boolean)) ∈ wsA := wsA_k 324 (by decide +kernel) (by decide +kernel)
theorem k_325 : (Cond.methodLink RX3 72 yX3_beginTemplate) ∈ wsA := wsA_k 325 (by decide +kernel) (by decide +kernel)
theorem k_327 : (Cond.instanceMethod yX3_beginTemplate) ∈ wsA := wsA_k 327 (by decide +kernel) (by decide +kernel)
theorem k_328 : (Cond.code yX3_beginTemplate cX3_beginTemplate 1 (some .boolean)) ∈ wsA := wsA_k 328 (by decide +kernel) (by decide +kernel)
theorem k_329 : (Cond.methodLink RX3 76 yX3_beginRepeat) ∈ wsA := wsA_k 329 (by decide +kernel) (by decide +kernel)
theorem k_331 : (Cond.instanceMethod yX3_beginRepeat) ∈ wsA := wsA_k 331 (by decide +kernel) (by decide +kernel)
theorem k_332 : (Cond.code yX3_beginRepeat cX3_beginRepeat 2 (some .boolean)) ∈ wsA := wsA_k 332 (by decide +kernel) (by decide +kernel)
theorem k_333 : (Cond.methodLink RL 45 yX6_glue) ∈ wsA := wsA_k 333 (by decide +kernel) (by decide +kernel)
theorem k_334 : (Cond.instanceMethod yX6_glue) ∈ wsA := wsA_k 334 (by decide +kernel) (by decide +kernel)
theorem k_335 : (Cond.selects RX6 yX6_glue yX6_glue) ∈ wsA := wsA_k 335 (by decide +kernel) (by decide +kernel)
theorem k_336 : (Cond.code yX6_glue cX6_glue 8 (some .int)) ∈ wsA := wsA_k 336 (by decide +kernel) (by decide +kernel)
theorem k_337 : (Cond.methodLink RX6 38 yX5_refuseGlue) ∈ wsA := wsA_k 337 (by decide +kernel) (by decide +kernel)
theorem k_338 : (Cond.instanceMethod yX5_refuseGlue) ∈ wsA := wsA_k 338 (by decide +kernel) (by decide +kernel)
theorem k_339 : (Cond.selects RX5 yX5_refuseGlue yX5_refuseGlue) ∈ wsA := wsA_k 339 (by decide +kernel) (by decide +kernel)
theorem k_340 : (Cond.code yX5_refuseGlue cX5_refuseGlue 2 (some .int)) ∈ wsA := wsA_k 340 (by decide +kernel) (by decide +kernel)
theorem k_342 : (Cond.methodLink RX6 50 yX0_setStretch) ∈ wsA := wsA_k 342 (by decide +kernel) (by decide +kernel)
theorem k_343 : (Cond.instanceMethod yX0_setStretch) ∈ wsA := wsA_k 343 (by decide +kernel) (by decide +kernel)
theorem k_344 : (Cond.selects RX0 yX0_setStretch yX0_setStretch) ∈ wsA := wsA_k 344 (by decide +kernel) (by decide +kernel)
theorem k_346 : (Cond.methodLink RL 50 yX6_shrink) ∈ wsA := wsA_k 346 (by decide +kernel) (by decide +kernel)
theorem k_347 : (Cond.instanceMethod yX6_shrink) ∈ wsA := wsA_k 347 (by decide +kernel) (by decide +kernel)
theorem k_348 : (Cond.selects RX6 yX6_shrink yX6_shrink) ∈ wsA := wsA_k 348 (by decide +kernel) (by decide +kernel)
theorem k_349 : (Cond.code yX6_shrink cX6_shrink 7 (some .int)) ∈ wsA := wsA_k 349 (by decide +kernel) (by decide +kernel)
theorem k_350 : (Cond.methodLink RX6 56 yX0_setShrink) ∈ wsA := wsA_k 350 (by decide +kernel) (by decide +kernel)
theorem k_351 : (Cond.instanceMethod yX0_setShrink) ∈ wsA := wsA_k 351 (by decide +kernel) (by decide +kernel)
theorem k_352 : (Cond.selects RX0 yX0_setShrink yX0_setShrink) ∈ wsA := wsA_k 352 (by decide +kernel) (by decide +kernel)
theorem k_354 : (Cond.methodLink RL 54 yX6_row) ∈ wsA := wsA_k 354 (by decide +kernel) (by decide +kernel)
theorem k_355 : (Cond.instanceMethod yX6_row) ∈ wsA := wsA_k 355 (by decide +kernel) (by decide +kernel)
theorem k_356 : (Cond.selects RX6 yX6_row yX6_row) ∈ wsA := wsA_k 356 (by decide +kernel) (by decide +kernel)
theorem k_357 : (Cond.code yX6_row cX6_row 3 (some .int)) ∈ wsA := wsA_k 357 (by decide +kernel) (by decide +kernel)
theorem k_358 : (Cond.methodLink RX6 60 yX5_openRow) ∈ wsA := wsA_k 358 (by decide +kernel) (by decide +kernel)
theorem k_359 : (Cond.instanceMethod yX5_openRow) ∈ wsA := wsA_k 359 (by decide +kernel) (by decide +kernel)
theorem k_360 : (Cond.selects RX5 yX5_openRow yX5_openRow) ∈ wsA := wsA_k 360 (by decide +kernel) (by decide +kernel)
theorem k_361 : (Cond.code yX5_openRow cX5_openRow 1 (some .int)) ∈ wsA := wsA_k 361 (by decide +kernel) (by decide +kernel)
theorem k_362 : (Cond.methodLink RX5 67 yX5_isAtRest) ∈ wsA := wsA_k 362 (by decide +kernel) (by decide +kernel)
theorem k_363 : (Cond.instanceMethod yX5_isAtRest) ∈ wsA := wsA_k 363 (by decide +kernel) (by decide +kernel)
theorem k_364 : (Cond.selects RX5 yX5_isAtRest yX5_isAtRest) ∈ wsA := wsA_k 364 (by decide +kernel) (by decide +kernel)
theorem k_365 : (Cond.code yX5_isAtRest cX5_isAtRest 1 (some .boolean)) ∈ wsA := wsA_k 365 (by decide +kernel) (by decide +kernel)
theorem k_366 : (Cond.methodLink RX5 71 yX5_putItem) ∈ wsA := wsA_k 366 (by decide +kernel) (by decide +kernel)
theorem k_368 : (Cond.instanceMethod yX5_putItem) ∈ wsA := wsA_k 368 (by decide +kernel) (by decide +kernel)
theorem k_370 : (Cond.methodLink RL 58 yX6_entry) ∈ wsA := wsA_k 370 (by decide +kernel) (by decide +kernel)
theorem k_371 : (Cond.instanceMethod yX6_entry) ∈ wsA := wsA_k 371 (by decide +kernel) (by decide +kernel)
theorem k_372 : (Cond.selects RX6 yX6_entry yX6_entry) ∈ wsA := wsA_k 372 (by decide +kernel) (by decide +kernel)
theorem k_373 : (Cond.code yX6_entry cX6_entry 6 (some .int)) ∈ wsA := wsA_k 373 (by decide +kernel) (by decide +kernel)
theorem k_374 : (Cond.constant RX6 67 (100000)) ∈ wsA := wsA_k 374 (by decide +kernel) (by decide +kernel)
theorem k_375 : (Cond.methodLink RX6 68 yX5_addEntry) ∈ wsA := wsA_k 375 (by decide +kernel) (by decide +kernel)
theorem k_376 : (Cond.instanceMethod yX5_addEntry) ∈ wsA := wsA_k 376 (by decide +kernel) (by decide +kernel)
theorem k_377 : (Cond.selects RX5 yX5_addEntry yX5_addEntry) ∈ wsA := wsA_k 377 (by decide +kernel) (by decide +kernel)
theorem k_378 : (Cond.code yX5_addEntry cX5_addEntry 7 (some .int)) ∈ wsA := wsA_k 378 (by decide +kernel) (by decide +kernel)
theorem k_379 : (Cond.methodLink RX5 81 yX3_columnLimit) ∈ wsA := wsA_k 379 (by decide +kernel) (by decide +kernel)
theorem k_380 : (Cond.instanceMethod yX3_columnLimit) ∈ wsA := wsA_k 380 (by decide +kernel) (by decide +kernel)
theorem k_381 : (Cond.selects RX3 yX3_columnLimit yX3_columnLimit) ∈ wsA := wsA_k 381 (by decide +kernel) (by decide +kernel)
theorem k_382 : (Cond.code yX3_columnLimit cX3_columnLimit 1 (some .int)) ∈ wsA := wsA_k 382 (by decide +kernel) (by decide +kernel)
theorem k_383 : (Cond.methodLink RX5 85 yX3_textOf) ∈ wsA := wsA_k 383 (by decide +kernel) (by decide +kernel)
theorem k_384 : (Cond.instanceMethod yX3_textOf) ∈ wsA := wsA_k 384 (by decide +kernel) (by decide +kernel)
theorem k_385 : (Cond.selects RX3 yX3_textOf yX3_textOf) ∈ wsA := wsA_k 385 (by decide +kernel) (by decide +kernel)
theorem k_386 : (Cond.code yX3_textOf cX3_textOf 3 (some .int)) ∈ wsA := wsA_k 386 (by decide +kernel) (by decide +kernel)
theorem k_387 : (Cond.methodLink RX3 79 yX3_templateOf) ∈ wsA := wsA_k 387 (by decide +kernel) (by decide +kernel)
theorem k_388 : (Cond.instanceMethod yX3_templateOf) ∈ wsA := wsA_k 388 (by decide +kernel) (by decide +kernel)
theorem k_389 : (Cond.selects RX3 yX3_templateOf yX3_templateOf) ∈ wsA := wsA_k 389 (by decide +kernel) (by decide +kernel)
theorem k_390 : (Cond.code yX3_templateOf cX3_templateOf 3 (some .int)) ∈ wsA := wsA_k 390 (by decide +kernel) (by decide +kernel)
theorem k_391 : (Cond.methodLink RX5 89 yX4_append) ∈ wsA := wsA_k 391 (by decide +kernel) (by decide +kernel)
theorem k_392 : (Cond.instanceMethod yX4_append) ∈ wsA := wsA_k 392 (by decide +kernel) (by decide +kernel)
theorem k_393 : (Cond.selects RX4 yX4_append yX4_append) ∈ wsA := wsA_k 393 (by decide +kernel) (by decide +kernel)
theorem k_395 : (Cond.methodLink RL 63 yX6_nest) ∈ wsA := wsA_k 395 (by decide +kernel) (by decide +kernel)
theorem k_396 : (Cond.instanceMethod yX6_nest) ∈ wsA := wsA_k 396 (by decide +kernel) (by decide +kernel)
theorem k_397 : (Cond.selects RX6 yX6_nest yX6_nest) ∈ wsA := wsA_k 397 (by decide +kernel) (by decide +kernel)
theorem k_398 : (Cond.code yX6_nest cX6_nest 6 (some .int)) ∈ wsA := wsA_k 398 (by decide +kernel) (by decide +kernel)
theorem k_399 : (Cond.methodLink RX6 76 yX1_isNestable) ∈ wsA := wsA_k 399 (by decide +kernel) (by decide +kernel)
theorem k_400 : (Cond.instanceMethod yX1_isNestable) ∈ wsA := wsA_k 400 (by decide +kernel) (by decide +kernel)
theorem k_401 : (Cond.selects RX1 yX1_isNestable yX1_isNestable) ∈ wsA := wsA_k 401 (by decide +kernel) (by decide +kernel)
theorem k_402 : (Cond.code yX1_isNestable cX1_isNestable 1 (some .boolean)) ∈ wsA := wsA_k 402 (by decide +kernel) (by decide +kernel)
theorem k_403 : (Cond.methodLink RX1 80 yX1_setWidth) ∈ wsA := wsA_k 403 (by decide +kernel) (by decide +kernel)
theorem k_404 : (Cond.instanceMethod yX1_setWidth) ∈ wsA := wsA_k 404 (by decide +kernel) (by decide +kernel)
theorem k_405 : (Cond.selects RX1 yX1_setWidth yX1_setWidth) ∈ wsA := wsA_k 405 (by decide +kernel) (by decide +kernel)
theorem k_406 : (Cond.code yX1_setWidth cX1_setWidth 1 (some .long)) ∈ wsA := wsA_k 406 (by decide +kernel) (by decide +kernel)
theorem k_407 : (Cond.constantLong RX1 175 (100000)) ∈ wsA := wsA_k 407 (by decide +kernel) (by decide +kernel)
theorem k_408 : (Cond.methodLink RX6 82 yX1_setWidth) ∈ wsA := wsA_k 408 (by decide +kernel) (by decide +kernel)
theorem k_409 : (Cond.methodLink RL 68 yX6_end) ∈ wsA := wsA_k 409 (by decide +kernel) (by decide +kernel)
theorem k_410 : (Cond.instanceMethod yX6_end) ∈ wsA := wsA_k 410 (by decide +kernel) (by decide +kernel)
theorem k_411 : (Cond.selects RX6 yX6_end yX6_end) ∈ wsA := wsA_k 411 (by decide +kernel) (by decide +kernel)
theorem k_412 : (Cond.code yX6_end cX6_end 3 (some .int)) ∈ wsA := wsA_k 412 (by decide +kernel) (by decide +kernel)
theorem k_413 : (Cond.methodLink RX6 86 yX5_closeRow) ∈ wsA := wsA_k 413 (by decide +kernel) (by decide +kernel)
theorem k_414 : (Cond.instanceMethod yX5_closeRow) ∈ wsA := wsA_k 414 (by decide +kernel) (by decide +kernel)
theorem k_415 : (Cond.selects RX5 yX5_closeRow yX5_closeRow) ∈ wsA := wsA_k 415 (by decide +kernel) (by decide +kernel)
theorem k_416 : (Cond.code yX5_closeRow cX5_closeRow 1 (some .int)) ∈ wsA := wsA_k 416 (by decide +kernel) (by decide +kernel)
theorem k_417 : (Cond.methodLink RL 72 yX6_between) ∈ wsA := wsA_k 417 (by decide +kernel) (by decide +kernel)
theorem k_418 : (Cond.instanceMethod yX6_between) ∈ wsA := wsA_k 418 (by decide +kernel) (by decide +kernel)
theorem k_419 : (Cond.selects RX6 yX6_between yX6_between) ∈ wsA := wsA_k 419 (by decide +kernel) (by decide +kernel)
theorem k_420 : (Cond.code yX6_between cX6_between 3 (some .int)) ∈ wsA := wsA_k 420 (by decide +kernel) (by decide +kernel)
theorem k_421 : (Cond.methodLink RX6 89 yX5_addBetween) ∈ wsA := wsA_k 421 (by decide +kernel) (by decide +kernel)
theorem k_422 : (Cond.instanceMethod yX5_addBetween) ∈ wsA := wsA_k 422 (by decide +kernel) (by decide +kernel)
theorem k_423 : (Cond.selects RX5 yX5_addBetween yX5_addBetween) ∈ wsA := wsA_k 423 (by decide +kernel) (by decide +kernel)
theorem k_424 : (Cond.code yX5_addBetween cX5_addBetween 1 (some .int)) ∈ wsA := wsA_k 424 (by decide +kernel) (by decide +kernel)
theorem k_425 : (Cond.methodLink RL 76 yX6_run) ∈ wsA := wsA_k 425 (by decide +kernel) (by decide +kernel)
theorem k_426 : (Cond.instanceMethod yX6_run) ∈ wsA := wsA_k 426 (by decide +kernel) (by decide +kernel)
theorem k_427 : (Cond.selects RX6 yX6_run yX6_run) ∈ wsA := wsA_k 427 (by decide +kernel) (by decide +kernel)
theorem k_428 : (Cond.code yX6_run cX6_run 5 (some .long)) ∈ wsA := wsA_k 428 (by decide +kernel) (by decide +kernel)
theorem k_429 : (Cond.constantLong RX6 92 (-1)) ∈ wsA := wsA_k 429 (by decide +kernel) (by decide +kernel)
theorem k_430 : (Cond.methodLink RX6 94 yX5_isAtRest) ∈ wsA := wsA_k 430 (by decide +kernel) (by decide +kernel)
theorem k_431 : (Cond.constantLong RX6 97 (-3)) ∈ wsA := wsA_k 431 (by decide +kernel) (by decide +kernel)
theorem k_432 : (Cond.constant RX6 99 (-1000000)) ∈ wsA := wsA_k 432 (by decide +kernel) (by decide +kernel)
theorem k_433 : (Cond.constant RX6 100 (1000000)) ∈ wsA := wsA_k 433 (by decide +kernel) (by decide +kernel)
theorem k_434 : (Cond.constantLong RX6 101 (-2)) ∈ wsA := wsA_k 434 (by decide +kernel) (by decide +kernel)
theorem k_435 : (Cond.methodLink RX6 103 yX1_setTable) ∈ wsA := wsA_k 435 (by decide +kernel) (by decide +kernel)
theorem k_436 : (Cond.instanceMethod yX1_setTable) ∈ wsA := wsA_k 436 (by decide +kernel) (by decide +kernel)
theorem k_437 : (Cond.selects RX1 yX1_setTable yX1_setTable) ∈ wsA := wsA_k 437 (by decide +kernel) (by decide +kernel)
theorem k_438 : (Cond.code yX1_setTable cX1_setTable 4 (some .long)) ∈ wsA := wsA_k 438 (by decide +kernel) (by decide +kernel)
theorem k_439 : (Cond.methodLink RX1 59 yX1_gatherNeeds) ∈ wsA := wsA_k 439 (by decide +kernel) (by decide +kernel)
theorem k_441 : (Cond.instanceMethod yX1_gatherNeeds) ∈ wsA := wsA_k 441 (by decide +kernel) (by decide +kernel)
theorem k_443 : (Cond.methodLink RX1 83 yX2_clear) ∈ wsA := wsA_k 443 (by decide +kernel) (by decide +kernel)
theorem k_444 : (Cond.instanceMethod yX2_clear) ∈ wsA := wsA_k 444 (by decide +kernel) (by decide +kernel)
theorem k_445 : (Cond.selects RX2 yX2_clear yX2_clear) ∈ wsA := wsA_k 445 (by decide +kernel) (by decide +kernel)
theorem k_447 : (Cond.methodLink RX2 16 yJ7_fill_53178) ∈ wsA := wsA_k 447 (by decide +kernel) (by decide +kernel)
theorem k_448 : (Cond.methodLink RX1 107 yJ9_max_7cf53) ∈ wsA := wsA_k 448 (by decide +kernel) (by decide +kernel)
theorem k_449 : (Cond.static yJ9_max_7cf53) ∈ wsA := wsA_k 449 (by decide +kernel) (by decide +kernel)
theorem k_450 : (Cond.code yJ9_max_7cf53 cJ9_max_7cf53 2 (some .int)) ∈ wsA := wsA_k 450 (by decide +kernel) (by decide +kernel)
theorem k_451 : (Cond.methodLink RX1 123 yX2_add) ∈ wsA := wsA_k 451 (by decide +kernel) (by decide +kernel)
theorem k_452 : (Cond.instanceMethod yX2_add) ∈ wsA := wsA_k 452 (by decide +kernel) (by decide +kernel)
theorem k_453 : (Cond.selects RX2 yX2_add yX2_add) ∈ wsA := wsA_k 453 (by decide +kernel) (by decide +kernel)
theorem k_455 : (Cond.methodLink RX2 22 yJ9_max_7cf53) ∈ wsA := wsA_k 455 (by decide +kernel) (by decide +kernel)
theorem k_456 : (Cond.methodLink RX1 63 yX1_findWidths) ∈ wsA := wsA_k 456 (by decide +kernel) (by decide +kernel)
theorem k_458 : (Cond.instanceMethod yX1_findWidths) ∈ wsA := wsA_k 458 (by decide +kernel) (by decide +kernel)
theorem k_460 : (Cond.methodLink RX1 127 yX5_glueAt) ∈ wsA := wsA_k 460 (by decide +kernel) (by decide +kernel)
theorem k_461 : (Cond.instanceMethod yX5_glueAt) ∈ wsA := wsA_k 461 (by decide +kernel) (by decide +kernel)
theorem k_462 : (Cond.selects RX5 yX5_glueAt yX5_glueAt) ∈ wsA := wsA_k 462 (by decide +kernel) (by decide +kernel)
theorem k_463 : (Cond.code yX5_glueAt cX5_glueAt 2 (some (.object "AlignRows$Glue"))) ∈ wsA := wsA_k 463 (by decide +kernel) (by decide +kernel)
theorem k_464 : (Cond.methodLink RX5 93 yX3_templateOf) ∈ wsA := wsA_k 464 (by decide +kernel) (by decide +kernel)
theorem k_465 : (Cond.methodLink RX1 136 yX2_over) ∈ wsA := wsA_k 465 (by decide +kernel) (by decide +kernel)
theorem k_466 : (Cond.instanceMethod yX2_over) ∈ wsA := wsA_k 466 (by decide +kernel) (by decide +kernel)
theorem k_467 : (Cond.selects RX2 yX2_over yX2_over) ∈ wsA := wsA_k 467 (by decide +kernel) (by decide +kernel)
theorem k_468 : (Cond.code yX2_over cX2_over 2 (some .int)) ∈ wsA := wsA_k 468 (by decide +kernel) (by decide +kernel)
theorem k_469 : (Cond.methodLink RX1 140 yX2_moveOn) ∈ wsA := wsA_k 469 (by decide +kernel) (by decide +kernel)
theorem k_470 : (Cond.instanceMethod yX2_moveOn) ∈ wsA := wsA_k 470 (by decide +kernel) (by decide +kernel)
theorem k_471 : (Cond.selects RX2 yX2_moveOn yX2_moveOn) ∈ wsA := wsA_k 471 (by decide +kernel) (by decide +kernel)
theorem k_473 : (Cond.methodLink RX2 28 yX2_add) ∈ wsA := wsA_k 473 (by decide +kernel) (by decide +kernel)
theorem k_474 : (Cond.methodLink RX1 66 yX1_naturalWidth) ∈ wsA := wsA_k 474 (by decide +kernel) (by decide +kernel)
theorem k_476 : (Cond.instanceMethod yX1_naturalWidth) ∈ wsA := wsA_k 476 (by decide +kernel) (by decide +kernel)
theorem k_477 : (Cond.code yX1_naturalWidth cX1_naturalWidth 4 (some .long)) ∈ wsA := wsA_k 477 (by decide +kernel) (by decide +kernel)
theorem k_478 : (Cond.methodLink RX1 70 yX1_gatherGives) ∈ wsA := wsA_k 478 (by decide +kernel) (by decide +kernel)
theorem k_480 : (Cond.instanceMethod yX1_gatherGives) ∈ wsA := wsA_k 480 (by decide +kernel) (by decide +kernel)
theorem k_482 : (Cond.methodLink RX1 73 yX1_greatestOrder) ∈ wsA := wsA_k 482 (by decide +kernel) (by decide +kernel)
theorem k_484 : (Cond.instanceMethod yX1_greatestOrder) ∈ wsA := wsA_k 484 (by decide +kernel) (by decide +kernel)
theorem k_485 : (Cond.code yX1_greatestOrder cX1_greatestOrder 3 (some .int)) ∈ wsA := wsA_k 485 (by decide +kernel) (by decide +kernel)
theorem k_486 : (Cond.methodLink RX1 77 yX1_share) ∈ wsA := wsA_k 486 (by decide +kernel) (by decide +kernel)
theorem k_488 : (Cond.instanceMethod yX1_share) ∈ wsA := wsA_k 488 (by decide +kernel) (by decide +kernel)
theorem k_490 : (Cond.methodLink RX1 160 yX1_wholeSum) ∈ wsA := wsA_k 490 (by decide +kernel) (by decide +kernel)
theorem k_492 : (Cond.instanceMethod yX1_wholeSum) ∈ wsA := wsA_k 492 (by decide +kernel) (by decide +kernel)
theorem k_493 : (Cond.code yX1_wholeSum cX1_wholeSum 4 (some .long)) ∈ wsA := wsA_k 493 (by decide +kernel) (by decide +kernel)
theorem k_494 : (Cond.methodLink RX1 156 yX1_giveOf) ∈ wsA := wsA_k 494 (by decide +kernel) (by decide +kernel)
theorem k_496 : (Cond.instanceMethod yX1_giveOf) ∈ wsA := wsA_k 496 (by decide +kernel) (by decide +kernel)
theorem k_497 : (Cond.code yX1_giveOf cX1_giveOf 2 (some .long)) ∈ wsA := wsA_k 497 (by decide +kernel) (by decide +kernel)
theorem k_498 : (Cond.methodLink RX1 163 yJ9_abs_067f4) ∈ wsA := wsA_k 498 (by decide +kernel) (by decide +kernel)
theorem k_499 : (Cond.static yJ9_abs_067f4) ∈ wsA := wsA_k 499 (by decide +kernel) (by decide +kernel)
theorem k_500 : (Cond.code yJ9_abs_067f4 cJ9_abs_067f4 2 (some .long)) ∈ wsA := wsA_k 500 (by decide +kernel) (by decide +kernel)
theorem k_501 : (Cond.methodLink RX1 167 yJ9_min_f86c9) ∈ wsA := wsA_k 501 (by decide +kernel) (by decide +kernel)
theorem k_502 : (Cond.static yJ9_min_f86c9) ∈ wsA := wsA_k 502 (by decide +kernel) (by decide +kernel)
theorem k_503 : (Cond.code yJ9_min_f86c9 cJ9_min_f86c9 4 (some .long)) ∈ wsA := wsA_k 503 (by decide +kernel) (by decide +kernel)
theorem k_504 : (Cond.methodLink RX1 171 yX1_findPlaces) ∈ wsA := wsA_k 504 (by decide +kernel) (by decide +kernel)
theorem k_506 : (Cond.instanceMethod yX1_findPlaces) ∈ wsA := wsA_k 506 (by decide +kernel) (by decide +kernel)
theorem k_508 : (Cond.methodLink RL 81 yX6_width) ∈ wsA := wsA_k 508 (by decide +kernel) (by decide +kernel)
theorem k_509 : (Cond.instanceMethod yX6_width) ∈ wsA := wsA_k 509 (by decide +kernel) (by decide +kernel)
theorem k_510 : (Cond.selects RX6 yX6_width yX6_width) ∈ wsA := wsA_k 510 (by decide +kernel) (by decide +kernel)
theorem k_511 : (Cond.code yX6_width cX6_width 4 (some .int)) ∈ wsA := wsA_k 511 (by decide +kernel) (by decide +kernel)
theorem k_512 : (Cond.methodLink RX6 107 yX1_hasColumn) ∈ wsA := wsA_k 512 (by decide +kernel) (by decide +kernel)
theorem k_513 : (Cond.instanceMethod yX1_hasColumn) ∈ wsA := wsA_k 513 (by decide +kernel) (by decide +kernel)
theorem k_514 : (Cond.selects RX1 yX1_hasColumn yX1_hasColumn) ∈ wsA := wsA_k 514 (by decide +kernel) (by decide +kernel)
theorem k_515 : (Cond.code yX1_hasColumn cX1_hasColumn 2 (some .boolean)) ∈ wsA := wsA_k 515 (by decide +kernel) (by decide +kernel)
theorem k_517 : (Cond.methodLink RL 85 yX6_isVoid) ∈ wsA := wsA_k 517 (by decide +kernel) (by decide +kernel)
theorem k_518 : (Cond.instanceMethod yX6_isVoid) ∈ wsA := wsA_k 518 (by decide +kernel) (by decide +kernel)
theorem k_519 : (Cond.selects RX6 yX6_isVoid yX6_isVoid) ∈ wsA := wsA_k 519 (by decide +kernel) (by decide +kernel)
theorem k_520 : (Cond.code yX6_isVoid cX6_isVoid 4 (some .boolean)) ∈ wsA := wsA_k 520 (by decide +kernel) (by decide +kernel)
theorem k_521 : (Cond.methodLink RL 90 yL_place) ∈ wsA := wsA_k 521 (by decide +kernel) (by decide +kernel)
theorem k_522 : (Cond.static yL_place) ∈ wsA := wsA_k 522 (by decide +kernel) (by decide +kernel)
theorem k_523 : (Cond.codeWith yL_place cL_place 5 (some .int) [(0, 9, 12, 13)]) ∈ wsA := wsA_k 523 (by decide +kernel) (by decide +kernel)
theorem k_524 : (Cond.classLink RL 13 RJx00060) ∈ wsA := wsA_k 524 (by decide +kernel) (by decide +kernel)
theorem k_525 : (Cond.instantiable RJx00060 6) ∈ wsA := wsA_k 525 (by decide +kernel) (by decide +kernel)
theorem k_526 : (Cond.instanceMethod yJx00060_init_a7421) ∈ wsA := wsA_k 526 (by decide +kernel) (by decide +kernel)
theorem k_541 : (Cond.fieldLink "java/lang/Throwable" 13 "java/lang/Throwable" "UNASSIGNED_STACK" "[Ljava/lang/StackTraceElement;") ∈ wsA := wsA_k 541 (by decide +kernel) (by decide +kernel)
theorem k_543 : (Cond.fieldLink "java/lang/Throwable" 20 "java/lang/Throwable" "SUPPRESSED_SENTINEL" "Ljava/util/List;") ∈ wsA := wsA_k 543 (by decide +kernel) (by decide +kernel)
theorem k_553 : (Cond.instantiable "java/lang/Throwable" 6) ∈ wsA := wsA_k 553 (by decide +kernel) (by decide +kernel)
theorem k_555 : (Cond.fieldLink "java/lang/Throwable" 198 "java/lang/Throwable" "backtrace" "Ljava/lang/Object;") ∈ wsA := wsA_k 555 (by decide +kernel) (by decide +kernel)
theorem k_556 : (Cond.fieldLink "java/lang/Throwable" 31 "java/lang/Throwable" "detailMessage" "Ljava/lang/String;") ∈ wsA := wsA_k 556 (by decide +kernel) (by decide +kernel)
theorem k_557 : (Cond.fieldLink "java/lang/Throwable" 7 "java/lang/Throwable" "cause" "Ljava/lang/Throwable;") ∈ wsA := wsA_k 557 (by decide +kernel) (by decide +kernel)
theorem k_558 : (Cond.fieldLink "java/lang/Throwable" 17 "java/lang/Throwable" "stackTrace" "[Ljava/lang/StackTraceElement;") ∈ wsA := wsA_k 558 (by decide +kernel) (by decide +kernel)
theorem k_559 : (Cond.fieldLink "java/lang/Throwable" 24 "java/lang/Throwable" "suppressedExceptions" "Ljava/util/List;") ∈ wsA := wsA_k 559 (by decide +kernel) (by decide +kernel)
theorem k_588 : (Cond.fieldLink "java/lang/Throwable" 198 "java/lang/Throwable" "backtrace" "Ljava/lang/Object;") ∈ wsA := wsA_k 588 (by decide +kernel) (by decide +kernel)
theorem k_592 : (Cond.instantiable RJ0 4) ∈ wsA := wsA_k 592 (by decide +kernel) (by decide +kernel)
theorem k_593 : (Cond.arrayClass .byte) ∈ wsA := wsA_k 593 (by decide +kernel) (by decide +kernel)
theorem k_598 : (Cond.methodLink RL 7 yX6_place) ∈ wsA := wsA_k 598 (by decide +kernel) (by decide +kernel)
theorem k_599 : (Cond.instanceMethod yX6_place) ∈ wsA := wsA_k 599 (by decide +kernel) (by decide +kernel)
theorem k_600 : (Cond.selects RX6 yX6_place yX6_place) ∈ wsA := wsA_k 600 (by decide +kernel) (by decide +kernel)
theorem k_601 : (Cond.code yX6_place cX6_place 4 (some .long)) ∈ wsA := wsA_k 601 (by decide +kernel) (by decide +kernel)
theorem k_602 : (Cond.classLink RX6 119 RJx00060) ∈ wsA := wsA_k 602 (by decide +kernel) (by decide +kernel)
theorem k_603 : (Cond.methodLink RX6 121 yJx00060_init_da8c8) ∈ wsA := wsA_k 603 (by decide +kernel) (by decide +kernel)
theorem k_604 : (Cond.instanceMethod yJx00060_init_da8c8) ∈ wsA := wsA_k 604 (by decide +kernel) (by decide +kernel)
theorem k_616 : (Cond.methodLink RL 99 yL_at) ∈ wsA := wsA_k 616 (by decide +kernel) (by decide +kernel)
theorem k_617 : (Cond.static yL_at) ∈ wsA := wsA_k 617 (by decide +kernel) (by decide +kernel)
theorem k_618 : (Cond.codeWith yL_at cL_at 7 (some .int) [(0, 13, 16, 13)]) ∈ wsA := wsA_k 618 (by decide +kernel) (by decide +kernel)
theorem k_619 : (Cond.methodLink RL 15 yX6_at) ∈ wsA := wsA_k 619 (by decide +kernel) (by decide +kernel)
theorem k_620 : (Cond.instanceMethod yX6_at) ∈ wsA := wsA_k 620 (by decide +kernel) (by decide +kernel)
theorem k_621 : (Cond.selects RX6 yX6_at yX6_at) ∈ wsA := wsA_k 621 (by decide +kernel) (by decide +kernel)
theorem k_622 : (Cond.code yX6_at cX6_at 7 (some .long)) ∈ wsA := wsA_k 622 (by decide +kernel) (by decide +kernel)
theorem k_623 : (Cond.methodLink RX6 126 yX5_hasEntry) ∈ wsA := wsA_k 623 (by decide +kernel) (by decide +kernel)
theorem k_624 : (Cond.instanceMethod yX5_hasEntry) ∈ wsA := wsA_k 624 (by decide +kernel) (by decide +kernel)
theorem k_625 : (Cond.selects RX5 yX5_hasEntry yX5_hasEntry) ∈ wsA := wsA_k 625 (by decide +kernel) (by decide +kernel)
theorem k_626 : (Cond.code yX5_hasEntry cX5_hasEntry 3 (some .boolean)) ∈ wsA := wsA_k 626 (by decide +kernel) (by decide +kernel)
theorem k_627 : (Cond.methodLink RX6 143 yX1_boxPlace) ∈ wsA := wsA_k 627 (by decide +kernel) (by decide +kernel)
theorem k_628 : (Cond.instanceMethod yX1_boxPlace) ∈ wsA := wsA_k 628 (by decide +kernel) (by decide +kernel)
theorem k_629 : (Cond.selects RX1 yX1_boxPlace yX1_boxPlace) ∈ wsA := wsA_k 629 (by decide +kernel) (by decide +kernel)
theorem k_630 : (Cond.code yX1_boxPlace cX1_boxPlace 3 (some .long)) ∈ wsA := wsA_k 630 (by decide +kernel) (by decide +kernel)
theorem k_631 : (Cond.methodLink RX1 181 yX1_hasColumn) ∈ wsA := wsA_k 631 (by decide +kernel) (by decide +kernel)
theorem k_632 : (Cond.methodLink RX6 147 yX1_boxWidth) ∈ wsA := wsA_k 632 (by decide +kernel) (by decide +kernel)
theorem k_633 : (Cond.instanceMethod yX1_boxWidth) ∈ wsA := wsA_k 633 (by decide +kernel) (by decide +kernel)
theorem k_634 : (Cond.selects RX1 yX1_boxWidth yX1_boxWidth) ∈ wsA := wsA_k 634 (by decide +kernel) (by decide +kernel)
theorem k_635 : (Cond.code yX1_boxWidth cX1_boxWidth 4 (some .long)) ∈ wsA := wsA_k 635 (by decide +kernel) (by decide +kernel)
theorem k_636 : (Cond.methodLink RL 103 yL_item) ∈ wsA := wsA_k 636 (by decide +kernel) (by decide +kernel)
theorem k_637 : (Cond.static yL_item) ∈ wsA := wsA_k 637 (by decide +kernel) (by decide +kernel)
theorem k_638 : (Cond.codeWith yL_item cL_item 5 (some .int) [(0, 10, 13, 13)]) ∈ wsA := wsA_k 638 (by decide +kernel) (by decide +kernel)
theorem k_639 : (Cond.methodLink RL 19 yX6_item) ∈ wsA := wsA_k 639 (by decide +kernel) (by decide +kernel)
theorem k_640 : (Cond.instanceMethod yX6_item) ∈ wsA := wsA_k 640 (by decide +kernel) (by decide +kernel)
theorem k_641 : (Cond.selects RX6 yX6_item yX6_item) ∈ wsA := wsA_k 641 (by decide +kernel) (by decide +kernel)
theorem k_642 : (Cond.code yX6_item cX6_item 4 (some .int)) ∈ wsA := wsA_k 642 (by decide +kernel) (by decide +kernel)
theorem k_643 : (Cond.methodLink RL 106 yL_count) ∈ wsA := wsA_k 643 (by decide +kernel) (by decide +kernel)
theorem k_644 : (Cond.static yL_count) ∈ wsA := wsA_k 644 (by decide +kernel) (by decide +kernel)
theorem k_645 : (Cond.codeWith yL_count cL_count 5 (some .int) [(0, 9, 12, 13)]) ∈ wsA := wsA_k 645 (by decide +kernel) (by decide +kernel)
theorem k_646 : (Cond.methodLink RL 23 yX6_count) ∈ wsA := wsA_k 646 (by decide +kernel) (by decide +kernel)
theorem k_647 : (Cond.instanceMethod yX6_count) ∈ wsA := wsA_k 647 (by decide +kernel) (by decide +kernel)
theorem k_648 : (Cond.selects RX6 yX6_count yX6_count) ∈ wsA := wsA_k 648 (by decide +kernel) (by decide +kernel)
theorem k_649 : (Cond.code yX6_count cX6_count 4 (some .long)) ∈ wsA := wsA_k 649 (by decide +kernel) (by decide +kernel)
theorem k_650 : (Cond.methodLink RX6 156 yX5_tell) ∈ wsA := wsA_k 650 (by decide +kernel) (by decide +kernel)
theorem k_651 : (Cond.instanceMethod yX5_tell) ∈ wsA := wsA_k 651 (by decide +kernel) (by decide +kernel)
theorem k_652 : (Cond.selects RX5 yX5_tell yX5_tell) ∈ wsA := wsA_k 652 (by decide +kernel) (by decide +kernel)
theorem k_653 : (Cond.code yX5_tell cX5_tell 2 (some .long)) ∈ wsA := wsA_k 653 (by decide +kernel) (by decide +kernel)
theorem k_654 : (Cond.methodLink RX5 100 yX5_entriesOfAll) ∈ wsA := wsA_k 654 (by decide +kernel) (by decide +kernel)
theorem k_655 : (Cond.instanceMethod yX5_entriesOfAll) ∈ wsA := wsA_k 655 (by decide +kernel) (by decide +kernel)
theorem k_656 : (Cond.selects RX5 yX5_entriesOfAll yX5_entriesOfAll) ∈ wsA := wsA_k 656 (by decide +kernel) (by decide +kernel)
theorem k_657 : (Cond.code yX5_entriesOfAll cX5_entriesOfAll 3 (some .int)) ∈ wsA := wsA_k 657 (by decide +kernel) (by decide +kernel)
theorem k_658 : (Cond.methodLink RX6 160 yX1_tell) ∈ wsA := wsA_k 658 (by decide +kernel) (by decide +kernel)
theorem k_659 : (Cond.instanceMethod yX1_tell) ∈ wsA := wsA_k 659 (by decide +kernel) (by decide +kernel)
theorem k_660 : (Cond.selects RX1 yX1_tell yX1_tell) ∈ wsA := wsA_k 660 (by decide +kernel) (by decide +kernel)
theorem k_661 : (Cond.code yX1_tell cX1_tell 2 (some .long)) ∈ wsA := wsA_k 661 (by decide +kernel) (by decide +kernel)
theorem k_662 : (Cond.classLink RL 27 RX7) ∈ wsA := wsA_k 662 (by decide +kernel) (by decide +kernel)
theorem k_663 : (Cond.instantiable RX7 38) ∈ wsA := wsA_k 663 (by decide +kernel) (by decide +kernel)
theorem k_664 : (Cond.methodLink RL 29 yX7_init) ∈ wsA := wsA_k 664 (by decide +kernel) (by decide +kernel)
theorem k_665 : (Cond.instanceMethod yX7_init) ∈ wsA := wsA_k 665 (by decide +kernel) (by decide +kernel)
theorem k_668 : (Cond.fieldLink RX7 114 "AlignRowsModel" "fault" "I") ∈ wsA := wsA_k 668 (by decide +kernel) (by decide +kernel)
theorem k_669 : (Cond.fieldLink RX7 118 "AlignRowsModel" "tables" "I") ∈ wsA := wsA_k 669 (by decide +kernel) (by decide +kernel)
theorem k_670 : (Cond.fieldLink RX7 7 "AlignRowsModel" "tape" "[I") ∈ wsA := wsA_k 670 (by decide +kernel) (by decide +kernel)
theorem k_671 : (Cond.fieldLink RX7 13 "AlignRowsModel" "tapeSize" "[I") ∈ wsA := wsA_k 671 (by decide +kernel) (by decide +kernel)
theorem k_672 : (Cond.fieldLink RX7 16 "AlignRowsModel" "isLaid" "[Z") ∈ wsA := wsA_k 672 (by decide +kernel) (by decide +kernel)
theorem k_673 : (Cond.fieldLink RX7 20 "AlignRowsModel" "templates" "[I") ∈ wsA := wsA_k 673 (by decide +kernel) (by decide +kernel)
theorem k_674 : (Cond.fieldLink RX7 23 "AlignRowsModel" "repeats" "[I") ∈ wsA := wsA_k 674 (by decide +kernel) (by decide +kernel)
theorem k_675 : (Cond.fieldLink RX7 26 "AlignRowsModel" "before" "[I") ∈ wsA := wsA_k 675 (by decide +kernel) (by decide +kernel)
theorem k_676 : (Cond.fieldLink RX7 29 "AlignRowsModel" "behind" "[I") ∈ wsA := wsA_k 676 (by decide +kernel) (by decide +kernel)
theorem k_677 : (Cond.fieldLink RX7 32 "AlignRowsModel" "glueWidth" "[I") ∈ wsA := wsA_k 677 (by decide +kernel) (by decide +kernel)
theorem k_678 : (Cond.fieldLink RX7 35 "AlignRowsModel" "stretch" "[I") ∈ wsA := wsA_k 678 (by decide +kernel) (by decide +kernel)
theorem k_679 : (Cond.fieldLink RX7 38 "AlignRowsModel" "stretchOrder" "[I") ∈ wsA := wsA_k 679 (by decide +kernel) (by decide +kernel)
theorem k_680 : (Cond.fieldLink RX7 41 "AlignRowsModel" "shrinks" "[I") ∈ wsA := wsA_k 680 (by decide +kernel) (by decide +kernel)
theorem k_681 : (Cond.fieldLink RX7 44 "AlignRowsModel" "shrinkOrder" "[I") ∈ wsA := wsA_k 681 (by decide +kernel) (by decide +kernel)
theorem k_682 : (Cond.fieldLink RX7 47 "AlignRowsModel" "rows" "[I") ∈ wsA := wsA_k 682 (by decide +kernel) (by decide +kernel)
theorem k_683 : (Cond.fieldLink RX7 50 "AlignRowsModel" "isOpen" "[Z") ∈ wsA := wsA_k 683 (by decide +kernel) (by decide +kernel)
theorem k_684 : (Cond.fieldLink RX7 53 "AlignRowsModel" "rowFrom" "[I") ∈ wsA := wsA_k 684 (by decide +kernel) (by decide +kernel)
theorem k_685 : (Cond.fieldLink RX7 56 "AlignRowsModel" "rowSize" "[I") ∈ wsA := wsA_k 685 (by decide +kernel) (by decide +kernel)
theorem k_686 : (Cond.fieldLink RX7 59 "AlignRowsModel" "entries" "[I") ∈ wsA := wsA_k 686 (by decide +kernel) (by decide +kernel)
theorem k_687 : (Cond.fieldLink RX7 62 "AlignRowsModel" "wide" "[I") ∈ wsA := wsA_k 687 (by decide +kernel) (by decide +kernel)
theorem k_688 : (Cond.fieldLink RX7 65 "AlignRowsModel" "first" "[I") ∈ wsA := wsA_k 688 (by decide +kernel) (by decide +kernel)
theorem k_689 : (Cond.fieldLink RX7 68 "AlignRowsModel" "span" "[I") ∈ wsA := wsA_k 689 (by decide +kernel) (by decide +kernel)
theorem k_690 : (Cond.fieldLink RX7 71 "AlignRowsModel" "items" "[I") ∈ wsA := wsA_k 690 (by decide +kernel) (by decide +kernel)
theorem k_691 : (Cond.fieldLink RX7 74 "AlignRowsModel" "item" "[I") ∈ wsA := wsA_k 691 (by decide +kernel) (by decide +kernel)
theorem k_692 : (Cond.fieldLink RX7 77 "AlignRowsModel" "betweens" "[I") ∈ wsA := wsA_k 692 (by decide +kernel) (by decide +kernel)
theorem k_693 : (Cond.fieldLink RX7 80 "AlignRowsModel" "runs" "[I") ∈ wsA := wsA_k 693 (by decide +kernel) (by decide +kernel)
theorem k_694 : (Cond.fieldLink RX7 83 "AlignRowsModel" "columns" "[I") ∈ wsA := wsA_k 694 (by decide +kernel) (by decide +kernel)
theorem k_695 : (Cond.fieldLink RX7 86 "AlignRowsModel" "widths" "[I") ∈ wsA := wsA_k 695 (by decide +kernel) (by decide +kernel)
theorem k_696 : (Cond.fieldLink RX7 89 "AlignRowsModel" "isNothing" "[Z") ∈ wsA := wsA_k 696 (by decide +kernel) (by decide +kernel)
theorem k_697 : (Cond.fieldLink RX7 92 "AlignRowsModel" "places" "[J") ∈ wsA := wsA_k 697 (by decide +kernel) (by decide +kernel)
theorem k_698 : (Cond.fieldLink RX7 96 "AlignRowsModel" "natural" "[J") ∈ wsA := wsA_k 698 (by decide +kernel) (by decide +kernel)
theorem k_699 : (Cond.fieldLink RX7 99 "AlignRowsModel" "set" "[J") ∈ wsA := wsA_k 699 (by decide +kernel) (by decide +kernel)
theorem k_700 : (Cond.fieldLink RX7 102 "AlignRowsModel" "order" "[I") ∈ wsA := wsA_k 700 (by decide +kernel) (by decide +kernel)
theorem k_701 : (Cond.fieldLink RX7 105 "AlignRowsModel" "missing" "[J") ∈ wsA := wsA_k 701 (by decide +kernel) (by decide +kernel)
theorem k_702 : (Cond.fieldLink RX7 108 "AlignRowsModel" "need" "[I") ∈ wsA := wsA_k 702 (by decide +kernel) (by decide +kernel)
theorem k_703 : (Cond.fieldLink RX7 111 "AlignRowsModel" "from" "[I") ∈ wsA := wsA_k 703 (by decide +kernel) (by decide +kernel)
theorem k_704 : (Cond.fieldLink RX7 132 "AlignRowsModel" "at" "I") ∈ wsA := wsA_k 704 (by decide +kernel) (by decide +kernel)
theorem k_705 : (Cond.fieldLink RX7 139 "AlignRowsModel" "wrong" "I") ∈ wsA := wsA_k 705 (by decide +kernel) (by decide +kernel)
theorem k_783 : (Cond.methodLink RL 96 yX7_thrown) ∈ wsA := wsA_k 783 (by decide +kernel) (by decide +kernel)
theorem k_784 : (Cond.instanceMethod yX7_thrown) ∈ wsA := wsA_k 784 (by decide +kernel) (by decide +kernel)
theorem k_785 : (Cond.selects RX7 yX7_thrown yX7_thrown) ∈ wsA := wsA_k 785 (by decide +kernel) (by decide +kernel)
theorem k_786 : (Cond.code yX7_thrown cX7_thrown 1 (some .int)) ∈ wsA := wsA_k 786 (by decide +kernel) (by decide +kernel)
theorem k_787 : (Cond.methodLink RL 34 yX7_table) ∈ wsA := wsA_k 787 (by decide +kernel) (by decide +kernel)
theorem k_788 : (Cond.instanceMethod yX7_table) ∈ wsA := wsA_k 788 (by decide +kernel) (by decide +kernel)
theorem k_789 : (Cond.selects RX7 yX7_table yX7_table) ∈ wsA := wsA_k 789 (by decide +kernel) (by decide +kernel)
theorem k_790 : (Cond.code yX7_table cX7_table 1 (some .int)) ∈ wsA := wsA_k 790 (by decide +kernel) (by decide +kernel)
theorem k_791 : (Cond.methodLink RL 39 yX7_type) ∈ wsA := wsA_k 791 (by decide +kernel) (by decide +kernel)
theorem k_792 : (Cond.instanceMethod yX7_type) ∈ wsA := wsA_k 792 (by decide +kernel) (by decide +kernel)
theorem k_793 : (Cond.selects RX7 yX7_type yX7_type) ∈ wsA := wsA_k 793 (by decide +kernel) (by decide +kernel)
theorem k_794 : (Cond.code yX7_type cX7_type 9 (some .int)) ∈ wsA := wsA_k 794 (by decide +kernel) (by decide +kernel)
theorem k_795 : (Cond.methodLink RX7 121 yX7_isTable) ∈ wsA := wsA_k 795 (by decide +kernel) (by decide +kernel)
theorem k_797 : (Cond.instanceMethod yX7_isTable) ∈ wsA := wsA_k 797 (by decide +kernel) (by decide +kernel)
theorem k_798 : (Cond.code yX7_isTable cX7_isTable 2 (some .boolean)) ∈ wsA := wsA_k 798 (by decide +kernel) (by decide +kernel)
theorem k_799 : (Cond.methodLink RX7 125 yX7_byteOf) ∈ wsA := wsA_k 799 (by decide +kernel) (by decide +kernel)
theorem k_800 : (Cond.static yX7_byteOf) ∈ wsA := wsA_k 800 (by decide +kernel) (by decide +kernel)
theorem k_801 : (Cond.code yX7_byteOf cX7_byteOf 5 (some .int)) ∈ wsA := wsA_k 801 (by decide +kernel) (by decide +kernel)
theorem k_802 : (Cond.methodLink RX7 129 yX7_isLetter) ∈ wsA := wsA_k 802 (by decide +kernel) (by decide +kernel)
theorem k_803 : (Cond.static yX7_isLetter) ∈ wsA := wsA_k 803 (by decide +kernel) (by decide +kernel)
theorem k_804 : (Cond.code yX7_isLetter cX7_isLetter 1 (some .boolean)) ∈ wsA := wsA_k 804 (by decide +kernel) (by decide +kernel)
theorem k_805 : (Cond.methodLink RL 44 yX7_lay) ∈ wsA := wsA_k 805 (by decide +kernel) (by decide +kernel)
theorem k_806 : (Cond.instanceMethod yX7_lay) ∈ wsA := wsA_k 806 (by decide +kernel) (by decide +kernel)
theorem k_807 : (Cond.selects RX7 yX7_lay yX7_lay) ∈ wsA := wsA_k 807 (by decide +kernel) (by decide +kernel)
theorem k_808 : (Cond.code yX7_lay cX7_lay 2 (some .int)) ∈ wsA := wsA_k 808 (by decide +kernel) (by decide +kernel)
theorem k_809 : (Cond.methodLink RX7 145 yX7_readAll) ∈ wsA := wsA_k 809 (by decide +kernel) (by decide +kernel)
theorem k_811 : (Cond.instanceMethod yX7_readAll) ∈ wsA := wsA_k 811 (by decide +kernel) (by decide +kernel)
theorem k_813 : (Cond.methodLink RX7 135 yX7_sign) ∈ wsA := wsA_k 813 (by decide +kernel) (by decide +kernel)
theorem k_815 : (Cond.instanceMethod yX7_sign) ∈ wsA := wsA_k 815 (by decide +kernel) (by decide +kernel)
theorem k_816 : (Cond.code yX7_sign cX7_sign 2 (some .int)) ∈ wsA := wsA_k 816 (by decide +kernel) (by decide +kernel)
theorem k_817 : (Cond.methodLink RX7 142 yX7_passLetters) ∈ wsA := wsA_k 817 (by decide +kernel) (by decide +kernel)
theorem k_819 : (Cond.instanceMethod yX7_passLetters) ∈ wsA := wsA_k 819 (by decide +kernel) (by decide +kernel)
theorem k_820 : (Cond.code yX7_passLetters cX7_passLetters 3 (some .int)) ∈ wsA := wsA_k 820 (by decide +kernel) (by decide +kernel)
theorem k_821 : (Cond.methodLink RL 49 yX7_glue) ∈ wsA := wsA_k 821 (by decide +kernel) (by decide +kernel)
theorem k_822 : (Cond.instanceMethod yX7_glue) ∈ wsA := wsA_k 822 (by decide +kernel) (by decide +kernel)
theorem k_823 : (Cond.selects RX7 yX7_glue yX7_glue) ∈ wsA := wsA_k 823 (by decide +kernel) (by decide +kernel)
theorem k_824 : (Cond.code yX7_glue cX7_glue 7 (some .int)) ∈ wsA := wsA_k 824 (by decide +kernel) (by decide +kernel)
theorem k_825 : (Cond.methodLink RX7 153 yX7_wrongGlue) ∈ wsA := wsA_k 825 (by decide +kernel) (by decide +kernel)
theorem k_827 : (Cond.instanceMethod yX7_wrongGlue) ∈ wsA := wsA_k 827 (by decide +kernel) (by decide +kernel)
theorem k_828 : (Cond.code yX7_wrongGlue cX7_wrongGlue 3 (some .int)) ∈ wsA := wsA_k 828 (by decide +kernel) (by decide +kernel)
theorem k_829 : (Cond.methodLink RX7 149 yX7_in) ∈ wsA := wsA_k 829 (by decide +kernel) (by decide +kernel)
theorem k_830 : (Cond.static yX7_in) ∈ wsA := wsA_k 830 (by decide +kernel) (by decide +kernel)
theorem k_831 : (Cond.code yX7_in cX7_in 6 (some .boolean)) ∈ wsA := wsA_k 831 (by decide +kernel) (by decide +kernel)
theorem k_832 : (Cond.constantLong RX7 157 (-10000)) ∈ wsA := wsA_k 832 (by decide +kernel) (by decide +kernel)
theorem k_833 : (Cond.constantLong RX7 159 (10000)) ∈ wsA := wsA_k 833 (by decide +kernel) (by decide +kernel)
theorem k_834 : (Cond.constantLong RX7 161 (3)) ∈ wsA := wsA_k 834 (by decide +kernel) (by decide +kernel)
theorem k_835 : (Cond.methodLink RL 53 yX7_shrink) ∈ wsA := wsA_k 835 (by decide +kernel) (by decide +kernel)
theorem k_836 : (Cond.instanceMethod yX7_shrink) ∈ wsA := wsA_k 836 (by decide +kernel) (by decide +kernel)
theorem k_837 : (Cond.selects RX7 yX7_shrink yX7_shrink) ∈ wsA := wsA_k 837 (by decide +kernel) (by decide +kernel)
theorem k_838 : (Cond.code yX7_shrink cX7_shrink 6 (some .int)) ∈ wsA := wsA_k 838 (by decide +kernel) (by decide +kernel)
theorem k_839 : (Cond.methodLink RL 57 yX7_row) ∈ wsA := wsA_k 839 (by decide +kernel) (by decide +kernel)
theorem k_840 : (Cond.instanceMethod yX7_row) ∈ wsA := wsA_k 840 (by decide +kernel) (by decide +kernel)
theorem k_841 : (Cond.selects RX7 yX7_row yX7_row) ∈ wsA := wsA_k 841 (by decide +kernel) (by decide +kernel)
theorem k_842 : (Cond.code yX7_row cX7_row 2 (some .int)) ∈ wsA := wsA_k 842 (by decide +kernel) (by decide +kernel)
theorem k_843 : (Cond.methodLink RX7 163 yX7_stand) ∈ wsA := wsA_k 843 (by decide +kernel) (by decide +kernel)
theorem k_845 : (Cond.instanceMethod yX7_stand) ∈ wsA := wsA_k 845 (by decide +kernel) (by decide +kernel)
theorem k_847 : (Cond.methodLink RL 62 yX7_entry) ∈ wsA := wsA_k 847 (by decide +kernel) (by decide +kernel)
theorem k_848 : (Cond.instanceMethod yX7_entry) ∈ wsA := wsA_k 848 (by decide +kernel) (by decide +kernel)
theorem k_849 : (Cond.selects RX7 yX7_entry yX7_entry) ∈ wsA := wsA_k 849 (by decide +kernel) (by decide +kernel)
theorem k_850 : (Cond.code yX7_entry cX7_entry 7 (some .int)) ∈ wsA := wsA_k 850 (by decide +kernel) (by decide +kernel)
theorem k_851 : (Cond.constantLong RX7 170 (100000)) ∈ wsA := wsA_k 851 (by decide +kernel) (by decide +kernel)
theorem k_852 : (Cond.constantLong RX7 172 (8)) ∈ wsA := wsA_k 852 (by decide +kernel) (by decide +kernel)
theorem k_853 : (Cond.methodLink RX7 167 yX7_free) ∈ wsA := wsA_k 853 (by decide +kernel) (by decide +kernel)
theorem k_855 : (Cond.instanceMethod yX7_free) ∈ wsA := wsA_k 855 (by decide +kernel) (by decide +kernel)
theorem k_856 : (Cond.code yX7_free cX7_free 4 (some .int)) ∈ wsA := wsA_k 856 (by decide +kernel) (by decide +kernel)
theorem k_857 : (Cond.methodLink RX7 174 yX7_columnsOf) ∈ wsA := wsA_k 857 (by decide +kernel) (by decide +kernel)
theorem k_859 : (Cond.instanceMethod yX7_columnsOf) ∈ wsA := wsA_k 859 (by decide +kernel) (by decide +kernel)
theorem k_860 : (Cond.code yX7_columnsOf cX7_columnsOf 2 (some .int)) ∈ wsA := wsA_k 860 (by decide +kernel) (by decide +kernel)
theorem k_861 : (Cond.methodLink RX7 177 yX7_templateOf) ∈ wsA := wsA_k 861 (by decide +kernel) (by decide +kernel)
theorem k_863 : (Cond.instanceMethod yX7_templateOf) ∈ wsA := wsA_k 863 (by decide +kernel) (by decide +kernel)
theorem k_864 : (Cond.code yX7_templateOf cX7_templateOf 4 (some .int)) ∈ wsA := wsA_k 864 (by decide +kernel) (by decide +kernel)
theorem k_865 : (Cond.methodLink RX7 180 yX7_add) ∈ wsA := wsA_k 865 (by decide +kernel) (by decide +kernel)
theorem k_867 : (Cond.instanceMethod yX7_add) ∈ wsA := wsA_k 867 (by decide +kernel) (by decide +kernel)
theorem k_868 : (Cond.code yX7_add cX7_add 5 (some .int)) ∈ wsA := wsA_k 868 (by decide +kernel) (by decide +kernel)
theorem k_869 : (Cond.methodLink RL 67 yX7_nest) ∈ wsA := wsA_k 869 (by decide +kernel) (by decide +kernel)
theorem k_870 : (Cond.instanceMethod yX7_nest) ∈ wsA := wsA_k 870 (by decide +kernel) (by decide +kernel)
theorem k_871 : (Cond.selects RX7 yX7_nest yX7_nest) ∈ wsA := wsA_k 871 (by decide +kernel) (by decide +kernel)
theorem k_872 : (Cond.code yX7_nest cX7_nest 4 (some .int)) ∈ wsA := wsA_k 872 (by decide +kernel) (by decide +kernel)
theorem k_873 : (Cond.methodLink RL 71 yX7_end) ∈ wsA := wsA_k 873 (by decide +kernel) (by decide +kernel)
theorem k_874 : (Cond.instanceMethod yX7_end) ∈ wsA := wsA_k 874 (by decide +kernel) (by decide +kernel)
theorem k_875 : (Cond.selects RX7 yX7_end yX7_end) ∈ wsA := wsA_k 875 (by decide +kernel) (by decide +kernel)
theorem k_876 : (Cond.code yX7_end cX7_end 2 (some .int)) ∈ wsA := wsA_k 876 (by decide +kernel) (by decide +kernel)
theorem k_877 : (Cond.methodLink RL 75 yX7_between) ∈ wsA := wsA_k 877 (by decide +kernel) (by decide +kernel)
theorem k_878 : (Cond.instanceMethod yX7_between) ∈ wsA := wsA_k 878 (by decide +kernel) (by decide +kernel)
theorem k_879 : (Cond.selects RX7 yX7_between yX7_between) ∈ wsA := wsA_k 879 (by decide +kernel) (by decide +kernel)
theorem k_880 : (Cond.code yX7_between cX7_between 2 (some .int)) ∈ wsA := wsA_k 880 (by decide +kernel) (by decide +kernel)
theorem k_881 : (Cond.methodLink RL 80 yX7_run) ∈ wsA := wsA_k 881 (by decide +kernel) (by decide +kernel)
theorem k_882 : (Cond.instanceMethod yX7_run) ∈ wsA := wsA_k 882 (by decide +kernel) (by decide +kernel)
theorem k_883 : (Cond.selects RX7 yX7_run yX7_run) ∈ wsA := wsA_k 883 (by decide +kernel) (by decide +kernel)
theorem k_884 : (Cond.code yX7_run cX7_run 7 (some .long)) ∈ wsA := wsA_k 884 (by decide +kernel) (by decide +kernel)
theorem k_885 : (Cond.constantLong RX7 191 (-1)) ∈ wsA := wsA_k 885 (by decide +kernel) (by decide +kernel)
theorem k_886 : (Cond.constantLong RX7 193 (-3)) ∈ wsA := wsA_k 886 (by decide +kernel) (by decide +kernel)
theorem k_887 : (Cond.constantLong RX7 195 (2)) ∈ wsA := wsA_k 887 (by decide +kernel) (by decide +kernel)
theorem k_888 : (Cond.constantLong RX7 197 (-1000000)) ∈ wsA := wsA_k 888 (by decide +kernel) (by decide +kernel)
theorem k_889 : (Cond.constantLong RX7 199 (1000000)) ∈ wsA := wsA_k 889 (by decide +kernel) (by decide +kernel)
theorem k_890 : (Cond.constantLong RX7 201 (-2)) ∈ wsA := wsA_k 890 (by decide +kernel) (by decide +kernel)
theorem k_891 : (Cond.methodLink RX7 203 yX7_findWidths) ∈ wsA := wsA_k 891 (by decide +kernel) (by decide +kernel)
theorem k_893 : (Cond.instanceMethod yX7_findWidths) ∈ wsA := wsA_k 893 (by decide +kernel) (by decide +kernel)
theorem k_895 : (Cond.methodLink RX7 184 yX7_glueBehind) ∈ wsA := wsA_k 895 (by decide +kernel) (by decide +kernel)
theorem k_897 : (Cond.instanceMethod yX7_glueBehind) ∈ wsA := wsA_k 897 (by decide +kernel) (by decide +kernel)
theorem k_898 : (Cond.code yX7_glueBehind cX7_glueBehind 3 (some .int)) ∈ wsA := wsA_k 898 (by decide +kernel) (by decide +kernel)
theorem k_899 : (Cond.methodLink RX7 206 yX7_widthOfGlue) ∈ wsA := wsA_k 899 (by decide +kernel) (by decide +kernel)
theorem k_901 : (Cond.instanceMethod yX7_widthOfGlue) ∈ wsA := wsA_k 901 (by decide +kernel) (by decide +kernel)
theorem k_902 : (Cond.code yX7_widthOfGlue cX7_widthOfGlue 3 (some .long)) ∈ wsA := wsA_k 902 (by decide +kernel) (by decide +kernel)
theorem k_903 : (Cond.methodLink RX7 210 yX7_share) ∈ wsA := wsA_k 903 (by decide +kernel) (by decide +kernel)
theorem k_905 : (Cond.instanceMethod yX7_share) ∈ wsA := wsA_k 905 (by decide +kernel) (by decide +kernel)
theorem k_907 : (Cond.methodLink RX7 213 yX7_sumOf) ∈ wsA := wsA_k 907 (by decide +kernel) (by decide +kernel)
theorem k_909 : (Cond.instanceMethod yX7_sumOf) ∈ wsA := wsA_k 909 (by decide +kernel) (by decide +kernel)
theorem k_910 : (Cond.code yX7_sumOf cX7_sumOf 8 (some .long)) ∈ wsA := wsA_k 910 (by decide +kernel) (by decide +kernel)
theorem k_911 : (Cond.methodLink RX7 187 yX7_gives) ∈ wsA := wsA_k 911 (by decide +kernel) (by decide +kernel)
theorem k_913 : (Cond.instanceMethod yX7_gives) ∈ wsA := wsA_k 913 (by decide +kernel) (by decide +kernel)
theorem k_914 : (Cond.code yX7_gives cX7_gives 6 (some .long)) ∈ wsA := wsA_k 914 (by decide +kernel) (by decide +kernel)
theorem k_915 : (Cond.methodLink RL 84 yX7_width) ∈ wsA := wsA_k 915 (by decide +kernel) (by decide +kernel)
theorem k_916 : (Cond.instanceMethod yX7_width) ∈ wsA := wsA_k 916 (by decide +kernel) (by decide +kernel)
theorem k_917 : (Cond.selects RX7 yX7_width yX7_width) ∈ wsA := wsA_k 917 (by decide +kernel) (by decide +kernel)
theorem k_918 : (Cond.code yX7_width cX7_width 3 (some .int)) ∈ wsA := wsA_k 918 (by decide +kernel) (by decide +kernel)
theorem k_919 : (Cond.methodLink RX7 216 yX7_isColumn) ∈ wsA := wsA_k 919 (by decide +kernel) (by decide +kernel)
theorem k_921 : (Cond.instanceMethod yX7_isColumn) ∈ wsA := wsA_k 921 (by decide +kernel) (by decide +kernel)
theorem k_922 : (Cond.code yX7_isColumn cX7_isColumn 3 (some .boolean)) ∈ wsA := wsA_k 922 (by decide +kernel) (by decide +kernel)
theorem k_923 : (Cond.methodLink RL 89 yX7_isVoid) ∈ wsA := wsA_k 923 (by decide +kernel) (by decide +kernel)
theorem k_924 : (Cond.instanceMethod yX7_isVoid) ∈ wsA := wsA_k 924 (by decide +kernel) (by decide +kernel)
theorem k_925 : (Cond.selects RX7 yX7_isVoid yX7_isVoid) ∈ wsA := wsA_k 925 (by decide +kernel) (by decide +kernel)
theorem k_926 : (Cond.code yX7_isVoid cX7_isVoid 3 (some .boolean)) ∈ wsA := wsA_k 926 (by decide +kernel) (by decide +kernel)
theorem k_927 : (Cond.methodLink RL 95 yX7_place) ∈ wsA := wsA_k 927 (by decide +kernel) (by decide +kernel)
theorem k_928 : (Cond.instanceMethod yX7_place) ∈ wsA := wsA_k 928 (by decide +kernel) (by decide +kernel)
theorem k_929 : (Cond.selects RX7 yX7_place yX7_place) ∈ wsA := wsA_k 929 (by decide +kernel) (by decide +kernel)
theorem k_930 : (Cond.code yX7_place cX7_place 3 (some .long)) ∈ wsA := wsA_k 930 (by decide +kernel) (by decide +kernel)
theorem k_931 : (Cond.methodLink RL 102 yX7_at) ∈ wsA := wsA_k 931 (by decide +kernel) (by decide +kernel)
theorem k_932 : (Cond.instanceMethod yX7_at) ∈ wsA := wsA_k 932 (by decide +kernel) (by decide +kernel)
theorem k_933 : (Cond.selects RX7 yX7_at yX7_at) ∈ wsA := wsA_k 933 (by decide +kernel) (by decide +kernel)
theorem k_934 : (Cond.code yX7_at cX7_at 9 (some .long)) ∈ wsA := wsA_k 934 (by decide +kernel) (by decide +kernel)
theorem k_935 : (Cond.methodLink RL 105 yX7_item) ∈ wsA := wsA_k 935 (by decide +kernel) (by decide +kernel)
theorem k_936 : (Cond.instanceMethod yX7_item) ∈ wsA := wsA_k 936 (by decide +kernel) (by decide +kernel)
theorem k_937 : (Cond.selects RX7 yX7_item yX7_item) ∈ wsA := wsA_k 937 (by decide +kernel) (by decide +kernel)
theorem k_938 : (Cond.code yX7_item cX7_item 3 (some .int)) ∈ wsA := wsA_k 938 (by decide +kernel) (by decide +kernel)
theorem k_939 : (Cond.methodLink RL 108 yX7_count) ∈ wsA := wsA_k 939 (by decide +kernel) (by decide +kernel)
theorem k_940 : (Cond.instanceMethod yX7_count) ∈ wsA := wsA_k 940 (by decide +kernel) (by decide +kernel)
theorem k_941 : (Cond.selects RX7 yX7_count yX7_count) ∈ wsA := wsA_k 941 (by decide +kernel) (by decide +kernel)
theorem k_942 : (Cond.code yX7_count cX7_count 3 (some .long)) ∈ wsA := wsA_k 942 (by decide +kernel) (by decide +kernel)
set_option maxRecDepth 20000 in
theorem i_Jx00060 : ∀ w ∈ u_ws RJx00060 TJx00060 6, w ∈ wsA := wsA_r _ [560, 562, 564, 566, 568, 570] (by decide +kernel) (by decide +kernel)
set_option maxRecDepth 20000 in
theorem i_X0 : ∀ w ∈ u_ws RX0 TX0 5, w ∈ wsA := wsA_r _ [197, 199, 201, 203, 205] (by decide +kernel) (by decide +kernel)
set_option maxRecDepth 20000 in
theorem i_X1 : ∀ w ∈ u_ws RX1 TX1 13, w ∈ wsA := wsA_r _ [155, 157, 159, 161, 163, 165, 167, 169, 171, 173, 175, 177, 179] (by decide +kernel) (by decide +kernel)
set_option maxRecDepth 20000 in
theorem i_X2 : ∀ w ∈ u_ws RX2 TX2 1, w ∈ wsA := wsA_r _ [134] (by decide +kernel) (by decide +kernel)
set_option maxRecDepth 20000 in
theorem i_X3 : ∀ w ∈ u_ws RX3 TX3 8, w ∈ wsA := wsA_r _ [96, 98, 100, 102, 104, 106, 108, 110] (by decide +kernel) (by decide +kernel)
set_option maxRecDepth 20000 in
theorem i_X4 : ∀ w ∈ u_ws RX4 TX4 5, w ∈ wsA := wsA_r _ [228, 230, 232, 234, 236] (by decide +kernel) (by decide +kernel)
set_option maxRecDepth 20000 in
theorem i_X5 : ∀ w ∈ u_ws RX5 TX5 9, w ∈ wsA := wsA_r _ [258, 260, 262, 264, 266, 268, 270, 272, 274] (by decide +kernel) (by decide +kernel)
set_option maxRecDepth 20000 in
theorem i_X6 : ∀ w ∈ u_ws RX6 TX6 2, w ∈ wsA := wsA_r _ [63, 65] (by decide +kernel) (by decide +kernel)
set_option maxRecDepth 20000 in
theorem i_X7 : ∀ w ∈ u_ws RX7 TX7 38, w ∈ wsA := wsA_r _ [706, 708, 710, 712, 714, 716, 718, 720, 722, 724, 726, 728, 730, 732, 734, 736, 738, 740, 742, 744, 746, 748, 750, 752, 754, 756, 758, 760, 762, 764, 766, 768, 770, 772, 774, 776, 778, 780] (by decide +kernel) (by decide +kernel)
def wsN : List Cond := [(Cond.arrayOver (.object "AlignRows$Table")), (Cond.methodLinkNest RX5 11 yX3_init "AlignRows"), (Cond.fieldLinkNest RX5 103 "AlignRows$Preamble" "length" "I" "AlignRows"), (Cond.fieldLinkNest RX5 57 "AlignRows$Preamble" "laid" "Z" "AlignRows"), (Cond.fieldLinkNest RX1 92 "AlignRows$Preamble" "templates" "I" "AlignRows"), (Cond.fieldLinkNest RX5 60 "AlignRows$Preamble" "templates" "I" "AlignRows"), (Cond.fieldLinkNest RX5 97 "AlignRows$Preamble" "repeatFrom" "I" "AlignRows"), (Cond.arrayOver (.object "AlignRows$Glue")), (Cond.arrayOver (.object "AlignRows$Row")), (Cond.methodLinkNest RX5 36 yX1_init "AlignRows"), (Cond.methodLinkNest RX1 34 yX2_init "AlignRows"), (Cond.arrayOver (.array .int)), (Cond.fieldLinkNest RX6 111 "AlignRows$LastRun" "widths" "[I" "AlignRows"), (Cond.fieldLinkNest RX6 115 "AlignRows$LastRun" "voids" "[Z" "AlignRows"), (Cond.fieldLinkNest RX6 122 "AlignRows$LastRun" "places" "[J" "AlignRows"), (Cond.methodLinkNest RX5 55 yX0_init "AlignRows"), (Cond.fieldLinkNest RX1 131 "AlignRows$Glue" "width" "I" "AlignRows"), (Cond.fieldLinkNest RX1 144 "AlignRows$Glue" "stretch" "I" "AlignRows"), (Cond.fieldLinkNest RX1 150 "AlignRows$Glue" "stretchOrder" "I" "AlignRows"), (Cond.fieldLinkNest RX1 147 "AlignRows$Glue" "shrink" "I" "AlignRows"), (Cond.fieldLinkNest RX1 153 "AlignRows$Glue" "shrinkOrder" "I" "AlignRows"), (Cond.methodLinkNest RX5 56 yX4_init "AlignRows"), (Cond.fieldLinkNest RX1 122 "AlignRows$Row" "widths" "[I" "AlignRows"), (Cond.fieldLinkNest RX6 134 "AlignRows$Row" "widths" "[I" "AlignRows"), (Cond.fieldLinkNest RX1 116 "AlignRows$Row" "firsts" "[I" "AlignRows"), (Cond.fieldLinkNest RX6 137 "AlignRows$Row" "firsts" "[I" "AlignRows"), (Cond.fieldLinkNest RX1 119 "AlignRows$Row" "spans" "[I" "AlignRows"), (Cond.fieldLinkNest RX6 140 "AlignRows$Row" "spans" "[I" "AlignRows"), (Cond.fieldLinkNest RX1 113 "AlignRows$Row" "entries" "I" "AlignRows"), (Cond.fieldLinkNest RX5 75 "AlignRows$Row" "entries" "I" "AlignRows"), (Cond.fieldLinkNest RX1 104 "AlignRows$Row" "columns" "I" "AlignRows"), (Cond.fieldLinkNest RX5 78 "AlignRows$Row" "columns" "I" "AlignRows"), (Cond.fieldLinkNest RX1 86 "AlignRows$Table" "preamble" "LAlignRows$Preamble;" "AlignRows"), (Cond.fieldLinkNest RX6 24 "AlignRows$Table" "preamble" "LAlignRows$Preamble;" "AlignRows"), (Cond.fieldLinkNest RX6 46 "AlignRows$Table" "glues" "[LAlignRows$Glue;" "AlignRows"), (Cond.fieldLinkNest RX1 100 "AlignRows$Table" "rows" "[LAlignRows$Row;" "AlignRows"), (Cond.fieldLinkNest RX6 130 "AlignRows$Table" "rows" "[LAlignRows$Row;" "AlignRows"), (Cond.fieldLinkNest RX6 153 "AlignRows$Table" "items" "[I" "AlignRows"), (Cond.fieldLinkNest RX6 72 "AlignRows$Table" "lastRun" "LAlignRows$LastRun;" "AlignRows"), (Cond.fieldLinkNest RX1 97 "AlignRows$Table" "rowCount" "I" "AlignRows"), (Cond.fieldLinkNest RX6 150 "AlignRows$Table" "itemCount" "I" "AlignRows"), (Cond.fieldLinkNest RX6 63 "AlignRows$Table" "open" "Z" "AlignRows"), (Cond.methodLinkNest RX3 55 yX6_isIn "AlignRows"), (Cond.methodLinkNest RX5 63 yX6_isIn "AlignRows"), (Cond.methodLinkNest RX1 177 yX6_isIn "AlignRows")]
set_option maxRecDepth 20000 in
theorem wsN_tbl : ∀ w ∈ wsN, w ∈ lw_tbl := by
  intro w hw
  have hp : wsN = ([60, 79, 87, 89, 91, 92, 94, 116, 118, 121, 127, 132, 140, 142, 144, 183, 188, 190, 192, 194, 196, 209, 214, 215, 217, 218, 220, 221, 223, 224, 226, 227, 240, 241, 243, 245, 246, 248, 250, 252, 255, 257, 298, 341, 516] : List Nat).filterMap (fun i => lw_tbl[i]?) := by decide +kernel
  rw [hp] at hw
  obtain ⟨i, -, hi⟩ := List.mem_filterMap.mp hw
  exact List.mem_of_getElem? hi
theorem n_60 : (Cond.arrayOver (.object "AlignRows$Table")) ∈ wsN := List.mem_of_getElem? (i := 0) rfl
theorem n_79 : (Cond.methodLinkNest RX5 11 yX3_init "AlignRows") ∈ wsN := List.mem_of_getElem? (i := 1) rfl
theorem n_87 : (Cond.fieldLinkNest RX5 103 "AlignRows$Preamble" "length" "I" "AlignRows") ∈ wsN := List.mem_of_getElem? (i := 2) rfl
theorem n_89 : (Cond.fieldLinkNest RX5 57 "AlignRows$Preamble" "laid" "Z" "AlignRows") ∈ wsN := List.mem_of_getElem? (i := 3) rfl
theorem n_91 : (Cond.fieldLinkNest RX1 92 "AlignRows$Preamble" "templates" "I" "AlignRows") ∈ wsN := List.mem_of_getElem? (i := 4) rfl
theorem n_92 : (Cond.fieldLinkNest RX5 60 "AlignRows$Preamble" "templates" "I" "AlignRows") ∈ wsN := List.mem_of_getElem? (i := 5) rfl
theorem n_94 : (Cond.fieldLinkNest RX5 97 "AlignRows$Preamble" "repeatFrom" "I" "AlignRows") ∈ wsN := List.mem_of_getElem? (i := 6) rfl
theorem n_116 : (Cond.arrayOver (.object "AlignRows$Glue")) ∈ wsN := List.mem_of_getElem? (i := 7) rfl
theorem n_118 : (Cond.arrayOver (.object "AlignRows$Row")) ∈ wsN := List.mem_of_getElem? (i := 8) rfl
theorem n_121 : (Cond.methodLinkNest RX5 36 yX1_init "AlignRows") ∈ wsN := List.mem_of_getElem? (i := 9) rfl
theorem n_127 : (Cond.methodLinkNest RX1 34 yX2_init "AlignRows") ∈ wsN := List.mem_of_getElem? (i := 10) rfl
theorem n_132 : (Cond.arrayOver (.array .int)) ∈ wsN := List.mem_of_getElem? (i := 11) rfl
theorem n_140 : (Cond.fieldLinkNest RX6 111 "AlignRows$LastRun" "widths" "[I" "AlignRows") ∈ wsN := List.mem_of_getElem? (i := 12) rfl
theorem n_142 : (Cond.fieldLinkNest RX6 115 "AlignRows$LastRun" "voids" "[Z" "AlignRows") ∈ wsN := List.mem_of_getElem? (i := 13) rfl
theorem n_144 : (Cond.fieldLinkNest RX6 122 "AlignRows$LastRun" "places" "[J" "AlignRows") ∈ wsN := List.mem_of_getElem? (i := 14) rfl
theorem n_183 : (Cond.methodLinkNest RX5 55 yX0_init "AlignRows") ∈ wsN := List.mem_of_getElem? (i := 15) rfl
theorem n_188 : (Cond.fieldLinkNest RX1 131 "AlignRows$Glue" "width" "I" "AlignRows") ∈ wsN := List.mem_of_getElem? (i := 16) rfl
theorem n_190 : (Cond.fieldLinkNest RX1 144 "AlignRows$Glue" "stretch" "I" "AlignRows") ∈ wsN := List.mem_of_getElem? (i := 17) rfl
theorem n_192 : (Cond.fieldLinkNest RX1 150 "AlignRows$Glue" "stretchOrder" "I" "AlignRows") ∈ wsN := List.mem_of_getElem? (i := 18) rfl
theorem n_194 : (Cond.fieldLinkNest RX1 147 "AlignRows$Glue" "shrink" "I" "AlignRows") ∈ wsN := List.mem_of_getElem? (i := 19) rfl
theorem n_196 : (Cond.fieldLinkNest RX1 153 "AlignRows$Glue" "shrinkOrder" "I" "AlignRows") ∈ wsN := List.mem_of_getElem? (i := 20) rfl
theorem n_209 : (Cond.methodLinkNest RX5 56 yX4_init "AlignRows") ∈ wsN := List.mem_of_getElem? (i := 21) rfl
theorem n_214 : (Cond.fieldLinkNest RX1 122 "AlignRows$Row" "widths" "[I" "AlignRows") ∈ wsN := List.mem_of_getElem? (i := 22) rfl
theorem n_215 : (Cond.fieldLinkNest RX6 134 "AlignRows$Row" "widths" "[I" "AlignRows") ∈ wsN := List.mem_of_getElem? (i := 23) rfl
theorem n_217 : (Cond.fieldLinkNest RX1 116 "AlignRows$Row" "firsts" "[I" "AlignRows") ∈ wsN := List.mem_of_getElem? (i := 24) rfl
theorem n_218 : (Cond.fieldLinkNest RX6 137 "AlignRows$Row" "firsts" "[I" "AlignRows") ∈ wsN := List.mem_of_getElem? (i := 25) rfl
theorem n_220 : (Cond.fieldLinkNest RX1 119 "AlignRows$Row" "spans" "[I" "AlignRows") ∈ wsN := List.mem_of_getElem? (i := 26) rfl
theorem n_221 : (Cond.fieldLinkNest RX6 140 "AlignRows$Row" "spans" "[I" "AlignRows") ∈ wsN := List.mem_of_getElem? (i := 27) rfl
theorem n_223 : (Cond.fieldLinkNest RX1 113 "AlignRows$Row" "entries" "I" "AlignRows") ∈ wsN := List.mem_of_getElem? (i := 28) rfl
theorem n_224 : (Cond.fieldLinkNest RX5 75 "AlignRows$Row" "entries" "I" "AlignRows") ∈ wsN := List.mem_of_getElem? (i := 29) rfl
theorem n_226 : (Cond.fieldLinkNest RX1 104 "AlignRows$Row" "columns" "I" "AlignRows") ∈ wsN := List.mem_of_getElem? (i := 30) rfl
theorem n_227 : (Cond.fieldLinkNest RX5 78 "AlignRows$Row" "columns" "I" "AlignRows") ∈ wsN := List.mem_of_getElem? (i := 31) rfl
theorem n_240 : (Cond.fieldLinkNest RX1 86 "AlignRows$Table" "preamble" "LAlignRows$Preamble;" "AlignRows") ∈ wsN := List.mem_of_getElem? (i := 32) rfl
theorem n_241 : (Cond.fieldLinkNest RX6 24 "AlignRows$Table" "preamble" "LAlignRows$Preamble;" "AlignRows") ∈ wsN := List.mem_of_getElem? (i := 33) rfl
theorem n_243 : (Cond.fieldLinkNest RX6 46 "AlignRows$Table" "glues" "[LAlignRows$Glue;" "AlignRows") ∈ wsN := List.mem_of_getElem? (i := 34) rfl
theorem n_245 : (Cond.fieldLinkNest RX1 100 "AlignRows$Table" "rows" "[LAlignRows$Row;" "AlignRows") ∈ wsN := List.mem_of_getElem? (i := 35) rfl
theorem n_246 : (Cond.fieldLinkNest RX6 130 "AlignRows$Table" "rows" "[LAlignRows$Row;" "AlignRows") ∈ wsN := List.mem_of_getElem? (i := 36) rfl
theorem n_248 : (Cond.fieldLinkNest RX6 153 "AlignRows$Table" "items" "[I" "AlignRows") ∈ wsN := List.mem_of_getElem? (i := 37) rfl
theorem n_250 : (Cond.fieldLinkNest RX6 72 "AlignRows$Table" "lastRun" "LAlignRows$LastRun;" "AlignRows") ∈ wsN := List.mem_of_getElem? (i := 38) rfl
theorem n_252 : (Cond.fieldLinkNest RX1 97 "AlignRows$Table" "rowCount" "I" "AlignRows") ∈ wsN := List.mem_of_getElem? (i := 39) rfl
theorem n_255 : (Cond.fieldLinkNest RX6 150 "AlignRows$Table" "itemCount" "I" "AlignRows") ∈ wsN := List.mem_of_getElem? (i := 40) rfl
theorem n_257 : (Cond.fieldLinkNest RX6 63 "AlignRows$Table" "open" "Z" "AlignRows") ∈ wsN := List.mem_of_getElem? (i := 41) rfl
theorem n_298 : (Cond.methodLinkNest RX3 55 yX6_isIn "AlignRows") ∈ wsN := List.mem_of_getElem? (i := 42) rfl
theorem n_341 : (Cond.methodLinkNest RX5 63 yX6_isIn "AlignRows") ∈ wsN := List.mem_of_getElem? (i := 43) rfl
theorem n_516 : (Cond.methodLinkNest RX1 177 yX6_isIn "AlignRows") ∈ wsN := List.mem_of_getElem? (i := 44) rfl
end
