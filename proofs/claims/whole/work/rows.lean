section
-- ===== PART A: goes FIRST, ahead of the names: the tables' words, and 'selects' of the private methods out of them =====
/-- a private method of a class that the tables say can be made, by its rows of tables_1 -/
def lw_okq (q : MethodName × Nat) : Prop := (q.1.cls ≠ "java/lang/invoke/MethodHandle" ∧ q.1.cls ≠ "java/lang/invoke/VarHandle") ∧ Cond.instantiable q.1.cls q.2 ∈ tables_1 ∧ Cond.privateMethod q.1 ∈ tables_1 ∧ Cond.instanceMethod q.1 ∈ tables_1
theorem lw_p0 : lw_okq (⟨"AlignRows", "find", "(I)LAlignRows$Table;"⟩, 2) := ⟨⟨by decide +kernel, by decide +kernel⟩, List.mem_of_getElem? (i := 18) (by decide +kernel), List.mem_of_getElem? (i := 248) (by decide +kernel), List.mem_of_getElem? (i := 249) (by decide +kernel)⟩
theorem lw_p1 : lw_okq (⟨"AlignRows$Preamble", "putSigns", "(I)V"⟩, 8) := ⟨⟨by decide +kernel, by decide +kernel⟩, List.mem_of_getElem? (i := 44) (by decide +kernel), List.mem_of_getElem? (i := 269) (by decide +kernel), List.mem_of_getElem? (i := 270) (by decide +kernel)⟩
theorem lw_p2 : lw_okq (⟨"AlignRows$Preamble", "findWrongPlace", "()I"⟩, 8) := ⟨⟨by decide +kernel, by decide +kernel⟩, List.mem_of_getElem? (i := 44) (by decide +kernel), List.mem_of_getElem? (i := 281) (by decide +kernel), List.mem_of_getElem? (i := 282) (by decide +kernel)⟩
theorem lw_p3 : lw_okq (⟨"AlignRows$Preamble", "takeSign", "(I)Z"⟩, 8) := ⟨⟨by decide +kernel, by decide +kernel⟩, List.mem_of_getElem? (i := 44) (by decide +kernel), List.mem_of_getElem? (i := 288) (by decide +kernel), List.mem_of_getElem? (i := 289) (by decide +kernel)⟩
theorem lw_p4 : lw_okq (⟨"AlignRows$Preamble", "beginTemplate", "()Z"⟩, 8) := ⟨⟨by decide +kernel, by decide +kernel⟩, List.mem_of_getElem? (i := 44) (by decide +kernel), List.mem_of_getElem? (i := 292) (by decide +kernel), List.mem_of_getElem? (i := 293) (by decide +kernel)⟩
theorem lw_p5 : lw_okq (⟨"AlignRows$Preamble", "beginRepeat", "(I)Z"⟩, 8) := ⟨⟨by decide +kernel, by decide +kernel⟩, List.mem_of_getElem? (i := 44) (by decide +kernel), List.mem_of_getElem? (i := 296) (by decide +kernel), List.mem_of_getElem? (i := 297) (by decide +kernel)⟩
theorem lw_p6 : lw_okq (⟨"AlignRows$Table", "putItem", "(I)V"⟩, 9) := ⟨⟨by decide +kernel, by decide +kernel⟩, List.mem_of_getElem? (i := 38) (by decide +kernel), List.mem_of_getElem? (i := 333) (by decide +kernel), List.mem_of_getElem? (i := 334) (by decide +kernel)⟩
theorem lw_p7 : lw_okq (⟨"AlignRows$LastRun", "gatherNeeds", "(LAlignRows$Table;)V"⟩, 13) := ⟨⟨by decide +kernel, by decide +kernel⟩, List.mem_of_getElem? (i := 86) (by decide +kernel), List.mem_of_getElem? (i := 406) (by decide +kernel), List.mem_of_getElem? (i := 407) (by decide +kernel)⟩
theorem lw_p8 : lw_okq (⟨"AlignRows$LastRun", "findWidths", "(LAlignRows$Table;)V"⟩, 13) := ⟨⟨by decide +kernel, by decide +kernel⟩, List.mem_of_getElem? (i := 86) (by decide +kernel), List.mem_of_getElem? (i := 423) (by decide +kernel), List.mem_of_getElem? (i := 424) (by decide +kernel)⟩
theorem lw_p9 : lw_okq (⟨"AlignRows$LastRun", "naturalWidth", "()J"⟩, 13) := ⟨⟨by decide +kernel, by decide +kernel⟩, List.mem_of_getElem? (i := 86) (by decide +kernel), List.mem_of_getElem? (i := 441) (by decide +kernel), List.mem_of_getElem? (i := 442) (by decide +kernel)⟩
theorem lw_p10 : lw_okq (⟨"AlignRows$LastRun", "gatherGives", "(LAlignRows$Table;)V"⟩, 13) := ⟨⟨by decide +kernel, by decide +kernel⟩, List.mem_of_getElem? (i := 86) (by decide +kernel), List.mem_of_getElem? (i := 445) (by decide +kernel), List.mem_of_getElem? (i := 446) (by decide +kernel)⟩
theorem lw_p11 : lw_okq (⟨"AlignRows$LastRun", "greatestOrder", "()I"⟩, 13) := ⟨⟨by decide +kernel, by decide +kernel⟩, List.mem_of_getElem? (i := 86) (by decide +kernel), List.mem_of_getElem? (i := 449) (by decide +kernel), List.mem_of_getElem? (i := 450) (by decide +kernel)⟩
theorem lw_p12 : lw_okq (⟨"AlignRows$LastRun", "share", "()V"⟩, 13) := ⟨⟨by decide +kernel, by decide +kernel⟩, List.mem_of_getElem? (i := 86) (by decide +kernel), List.mem_of_getElem? (i := 453) (by decide +kernel), List.mem_of_getElem? (i := 454) (by decide +kernel)⟩
theorem lw_p13 : lw_okq (⟨"AlignRows$LastRun", "wholeSum", "()J"⟩, 13) := ⟨⟨by decide +kernel, by decide +kernel⟩, List.mem_of_getElem? (i := 86) (by decide +kernel), List.mem_of_getElem? (i := 457) (by decide +kernel), List.mem_of_getElem? (i := 458) (by decide +kernel)⟩
theorem lw_p14 : lw_okq (⟨"AlignRows$LastRun", "giveOf", "(I)J"⟩, 13) := ⟨⟨by decide +kernel, by decide +kernel⟩, List.mem_of_getElem? (i := 86) (by decide +kernel), List.mem_of_getElem? (i := 461) (by decide +kernel), List.mem_of_getElem? (i := 462) (by decide +kernel)⟩
theorem lw_p15 : lw_okq (⟨"AlignRows$LastRun", "findPlaces", "(JJ)V"⟩, 13) := ⟨⟨by decide +kernel, by decide +kernel⟩, List.mem_of_getElem? (i := 86) (by decide +kernel), List.mem_of_getElem? (i := 471) (by decide +kernel), List.mem_of_getElem? (i := 472) (by decide +kernel)⟩
def lw_privs_1 : List (MethodName × Nat) := [(⟨"AlignRows", "find", "(I)LAlignRows$Table;"⟩, 2), (⟨"AlignRows$Preamble", "putSigns", "(I)V"⟩, 8), (⟨"AlignRows$Preamble", "findWrongPlace", "()I"⟩, 8), (⟨"AlignRows$Preamble", "takeSign", "(I)Z"⟩, 8), (⟨"AlignRows$Preamble", "beginTemplate", "()Z"⟩, 8), (⟨"AlignRows$Preamble", "beginRepeat", "(I)Z"⟩, 8), (⟨"AlignRows$Table", "putItem", "(I)V"⟩, 9), (⟨"AlignRows$LastRun", "gatherNeeds", "(LAlignRows$Table;)V"⟩, 13), (⟨"AlignRows$LastRun", "findWidths", "(LAlignRows$Table;)V"⟩, 13), (⟨"AlignRows$LastRun", "naturalWidth", "()J"⟩, 13), (⟨"AlignRows$LastRun", "gatherGives", "(LAlignRows$Table;)V"⟩, 13), (⟨"AlignRows$LastRun", "greatestOrder", "()I"⟩, 13), (⟨"AlignRows$LastRun", "share", "()V"⟩, 13), (⟨"AlignRows$LastRun", "wholeSum", "()J"⟩, 13), (⟨"AlignRows$LastRun", "giveOf", "(I)J"⟩, 13), (⟨"AlignRows$LastRun", "findPlaces", "(JJ)V"⟩, 13)]
theorem lw_r1 : ∀ q ∈ lw_privs_1, lw_okq q := List.forall_mem_cons.mpr ⟨lw_p0, List.forall_mem_cons.mpr ⟨lw_p1, List.forall_mem_cons.mpr ⟨lw_p2, List.forall_mem_cons.mpr ⟨lw_p3, List.forall_mem_cons.mpr ⟨lw_p4, List.forall_mem_cons.mpr ⟨lw_p5, List.forall_mem_cons.mpr ⟨lw_p6, List.forall_mem_cons.mpr ⟨lw_p7, List.forall_mem_cons.mpr ⟨lw_p8, List.forall_mem_cons.mpr ⟨lw_p9, List.forall_mem_cons.mpr ⟨lw_p10, List.forall_mem_cons.mpr ⟨lw_p11, List.forall_mem_cons.mpr ⟨lw_p12, List.forall_mem_cons.mpr ⟨lw_p13, List.forall_mem_cons.mpr ⟨lw_p14, List.forall_mem_cons.mpr ⟨lw_p15, fun _ h => absurd h List.not_mem_nil⟩⟩⟩⟩⟩⟩⟩⟩⟩⟩⟩⟩⟩⟩⟩⟩
theorem lw_p16 : lw_okq (⟨"java/lang/Throwable", "fillInStackTrace", "(I)Ljava/lang/Throwable;"⟩, 6) := ⟨⟨by decide +kernel, by decide +kernel⟩, List.mem_of_getElem? (i := 519) (by decide +kernel), List.mem_of_getElem? (i := 517) (by decide +kernel), List.mem_of_getElem? (i := 518) (by decide +kernel)⟩
theorem lw_p17 : lw_okq (⟨"AlignRowsModel", "isTable", "(I)Z"⟩, 38) := ⟨⟨by decide +kernel, by decide +kernel⟩, List.mem_of_getElem? (i := 629) (by decide +kernel), List.mem_of_getElem? (i := 762) (by decide +kernel), List.mem_of_getElem? (i := 763) (by decide +kernel)⟩
theorem lw_p18 : lw_okq (⟨"AlignRowsModel", "readAll", "(I)V"⟩, 38) := ⟨⟨by decide +kernel, by decide +kernel⟩, List.mem_of_getElem? (i := 629) (by decide +kernel), List.mem_of_getElem? (i := 776) (by decide +kernel), List.mem_of_getElem? (i := 777) (by decide +kernel)⟩
theorem lw_p19 : lw_okq (⟨"AlignRowsModel", "sign", "(I)I"⟩, 38) := ⟨⟨by decide +kernel, by decide +kernel⟩, List.mem_of_getElem? (i := 629) (by decide +kernel), List.mem_of_getElem? (i := 780) (by decide +kernel), List.mem_of_getElem? (i := 781) (by decide +kernel)⟩
theorem lw_p20 : lw_okq (⟨"AlignRowsModel", "passLetters", "(I)I"⟩, 38) := ⟨⟨by decide +kernel, by decide +kernel⟩, List.mem_of_getElem? (i := 629) (by decide +kernel), List.mem_of_getElem? (i := 784) (by decide +kernel), List.mem_of_getElem? (i := 785) (by decide +kernel)⟩
theorem lw_p21 : lw_okq (⟨"AlignRowsModel", "wrongGlue", "(II)I"⟩, 38) := ⟨⟨by decide +kernel, by decide +kernel⟩, List.mem_of_getElem? (i := 629) (by decide +kernel), List.mem_of_getElem? (i := 792) (by decide +kernel), List.mem_of_getElem? (i := 793) (by decide +kernel)⟩
theorem lw_p22 : lw_okq (⟨"AlignRowsModel", "stand", "(II)V"⟩, 38) := ⟨⟨by decide +kernel, by decide +kernel⟩, List.mem_of_getElem? (i := 629) (by decide +kernel), List.mem_of_getElem? (i := 810) (by decide +kernel), List.mem_of_getElem? (i := 811) (by decide +kernel)⟩
theorem lw_p23 : lw_okq (⟨"AlignRowsModel", "free", "(I)I"⟩, 38) := ⟨⟨by decide +kernel, by decide +kernel⟩, List.mem_of_getElem? (i := 629) (by decide +kernel), List.mem_of_getElem? (i := 820) (by decide +kernel), List.mem_of_getElem? (i := 821) (by decide +kernel)⟩
theorem lw_p24 : lw_okq (⟨"AlignRowsModel", "columnsOf", "(I)I"⟩, 38) := ⟨⟨by decide +kernel, by decide +kernel⟩, List.mem_of_getElem? (i := 629) (by decide +kernel), List.mem_of_getElem? (i := 824) (by decide +kernel), List.mem_of_getElem? (i := 825) (by decide +kernel)⟩
theorem lw_p25 : lw_okq (⟨"AlignRowsModel", "templateOf", "(II)I"⟩, 38) := ⟨⟨by decide +kernel, by decide +kernel⟩, List.mem_of_getElem? (i := 629) (by decide +kernel), List.mem_of_getElem? (i := 828) (by decide +kernel), List.mem_of_getElem? (i := 829) (by decide +kernel)⟩
theorem lw_p26 : lw_okq (⟨"AlignRowsModel", "add", "(III)I"⟩, 38) := ⟨⟨by decide +kernel, by decide +kernel⟩, List.mem_of_getElem? (i := 629) (by decide +kernel), List.mem_of_getElem? (i := 832) (by decide +kernel), List.mem_of_getElem? (i := 833) (by decide +kernel)⟩
theorem lw_p27 : lw_okq (⟨"AlignRowsModel", "findWidths", "(I)V"⟩, 38) := ⟨⟨by decide +kernel, by decide +kernel⟩, List.mem_of_getElem? (i := 629) (by decide +kernel), List.mem_of_getElem? (i := 858) (by decide +kernel), List.mem_of_getElem? (i := 859) (by decide +kernel)⟩
theorem lw_p28 : lw_okq (⟨"AlignRowsModel", "glueBehind", "(II)I"⟩, 38) := ⟨⟨by decide +kernel, by decide +kernel⟩, List.mem_of_getElem? (i := 629) (by decide +kernel), List.mem_of_getElem? (i := 862) (by decide +kernel), List.mem_of_getElem? (i := 863) (by decide +kernel)⟩
theorem lw_p29 : lw_okq (⟨"AlignRowsModel", "widthOfGlue", "(II)J"⟩, 38) := ⟨⟨by decide +kernel, by decide +kernel⟩, List.mem_of_getElem? (i := 629) (by decide +kernel), List.mem_of_getElem? (i := 866) (by decide +kernel), List.mem_of_getElem? (i := 867) (by decide +kernel)⟩
theorem lw_p30 : lw_okq (⟨"AlignRowsModel", "share", "(I)V"⟩, 38) := ⟨⟨by decide +kernel, by decide +kernel⟩, List.mem_of_getElem? (i := 629) (by decide +kernel), List.mem_of_getElem? (i := 870) (by decide +kernel), List.mem_of_getElem? (i := 871) (by decide +kernel)⟩
theorem lw_p31 : lw_okq (⟨"AlignRowsModel", "sumOf", "(IIZI)J"⟩, 38) := ⟨⟨by decide +kernel, by decide +kernel⟩, List.mem_of_getElem? (i := 629) (by decide +kernel), List.mem_of_getElem? (i := 874) (by decide +kernel), List.mem_of_getElem? (i := 875) (by decide +kernel)⟩
def lw_privs_2 : List (MethodName × Nat) := [(⟨"java/lang/Throwable", "fillInStackTrace", "(I)Ljava/lang/Throwable;"⟩, 6), (⟨"AlignRowsModel", "isTable", "(I)Z"⟩, 38), (⟨"AlignRowsModel", "readAll", "(I)V"⟩, 38), (⟨"AlignRowsModel", "sign", "(I)I"⟩, 38), (⟨"AlignRowsModel", "passLetters", "(I)I"⟩, 38), (⟨"AlignRowsModel", "wrongGlue", "(II)I"⟩, 38), (⟨"AlignRowsModel", "stand", "(II)V"⟩, 38), (⟨"AlignRowsModel", "free", "(I)I"⟩, 38), (⟨"AlignRowsModel", "columnsOf", "(I)I"⟩, 38), (⟨"AlignRowsModel", "templateOf", "(II)I"⟩, 38), (⟨"AlignRowsModel", "add", "(III)I"⟩, 38), (⟨"AlignRowsModel", "findWidths", "(I)V"⟩, 38), (⟨"AlignRowsModel", "glueBehind", "(II)I"⟩, 38), (⟨"AlignRowsModel", "widthOfGlue", "(II)J"⟩, 38), (⟨"AlignRowsModel", "share", "(I)V"⟩, 38), (⟨"AlignRowsModel", "sumOf", "(IIZI)J"⟩, 38)]
theorem lw_r2 : ∀ q ∈ lw_privs_2, lw_okq q := List.forall_mem_cons.mpr ⟨lw_p16, List.forall_mem_cons.mpr ⟨lw_p17, List.forall_mem_cons.mpr ⟨lw_p18, List.forall_mem_cons.mpr ⟨lw_p19, List.forall_mem_cons.mpr ⟨lw_p20, List.forall_mem_cons.mpr ⟨lw_p21, List.forall_mem_cons.mpr ⟨lw_p22, List.forall_mem_cons.mpr ⟨lw_p23, List.forall_mem_cons.mpr ⟨lw_p24, List.forall_mem_cons.mpr ⟨lw_p25, List.forall_mem_cons.mpr ⟨lw_p26, List.forall_mem_cons.mpr ⟨lw_p27, List.forall_mem_cons.mpr ⟨lw_p28, List.forall_mem_cons.mpr ⟨lw_p29, List.forall_mem_cons.mpr ⟨lw_p30, List.forall_mem_cons.mpr ⟨lw_p31, fun _ h => absurd h List.not_mem_nil⟩⟩⟩⟩⟩⟩⟩⟩⟩⟩⟩⟩⟩⟩⟩⟩
theorem lw_p32 : lw_okq (⟨"AlignRowsModel", "gives", "(IIZI)J"⟩, 38) := ⟨⟨by decide +kernel, by decide +kernel⟩, List.mem_of_getElem? (i := 629) (by decide +kernel), List.mem_of_getElem? (i := 878) (by decide +kernel), List.mem_of_getElem? (i := 879) (by decide +kernel)⟩
theorem lw_p33 : lw_okq (⟨"AlignRowsModel", "isColumn", "(II)Z"⟩, 38) := ⟨⟨by decide +kernel, by decide +kernel⟩, List.mem_of_getElem? (i := 629) (by decide +kernel), List.mem_of_getElem? (i := 886) (by decide +kernel), List.mem_of_getElem? (i := 887) (by decide +kernel)⟩
def lw_privs_3 : List (MethodName × Nat) := [(⟨"AlignRowsModel", "gives", "(IIZI)J"⟩, 38), (⟨"AlignRowsModel", "isColumn", "(II)Z"⟩, 38)]
theorem lw_r3 : ∀ q ∈ lw_privs_3, lw_okq q := List.forall_mem_cons.mpr ⟨lw_p32, List.forall_mem_cons.mpr ⟨lw_p33, fun _ h => absurd h List.not_mem_nil⟩⟩
def lw_privs : List (MethodName × Nat) := lw_privs_1 ++ (lw_privs_2 ++ (lw_privs_3))
def lw_tbl : List Cond := k2_sels lw_privs ++ tables_1
theorem lw_privs_ok : ∀ q ∈ lw_privs, lw_okq q := by
  show ∀ q ∈ lw_privs_1 ++ (lw_privs_2 ++ (lw_privs_3)), lw_okq q
  exact List.forall_mem_append.mpr ⟨lw_r1, List.forall_mem_append.mpr ⟨lw_r2, lw_r3⟩⟩
-- ===== end of PART A; then your names; then what follows =====
end
section
/-! ===== BEGIN words of one list among another's, by their places ===== -/
theorem goodIn_r {big : List Cond} (ws : List Cond) (ps : List Nat) (hp : ws = ps.filterMap (fun i => big[i]?)) (h : ws.all goodWord = true) : GoodIn big ws := by
  intro w hw
  have h1 := List.all_eq_true.mp h w hw
  rw [hp] at hw
  obtain ⟨i, -, hi⟩ := List.mem_filterMap.mp hw
  have hm : w ∈ big := by first | exact List.mem_of_getElem? hi | exact List.getElem?_mem hi
  exact ⟨hm, good_of_word h1⟩
theorem goodIn_app {big a b : List Cond} (ha : GoodIn big a) (hb : GoodIn big b) : GoodIn big (a ++ b) := fun w h => (List.mem_append.mp h).elim (ha w) (hb w)
theorem goodIn_ca {big a b : List Cond} {c : Cond} (ha : GoodIn big (c :: a)) (hb : GoodIn big b) : GoodIn big (c :: (a ++ b)) := fun w h => (List.mem_cons.mp h).elim (fun e => ha w (List.mem_cons.mpr (Or.inl e))) (fun h => (List.mem_append.mp h).elim (fun h => ha w (List.mem_cons.mpr (Or.inr h))) (hb w))
theorem goodIn_sub {big ws : List Cond} (hm : ∀ w ∈ ws, w ∈ big) (h : ws.all goodWord = true) : GoodIn big ws := fun w hw => ⟨hm w hw, good_of_word (List.all_eq_true.mp h w hw)⟩
/-! ===== END ===== -/
/-! ===== BEGIN exceptions that leave a method, and their catching by the caller (launches without stack traces) ===== -/
section VXA
/-! The laws vx_back, vx_callV, vx_callS, vx_callSW, vx_throw0, vx_throwS follow proofs of the library, with one case more: JvmDerived/Free/Laws.lean (Back.of_free), Shelf42/LK1.lean (callV, callS), Shelf/KitTraced.lean (throwNew0V, throwNewS). -/
/-- where a method has thrown q: the class by its name, the cell, what was written, the world -/
def vx_T (XC : String → State → State → Prop) (st : State) (q : Addr) (t : State) (mc ms : Nat) (free : Addr → Prop) : Prop :=
  ∃ (E : String) (ce : Cell) (L : List Loc), XC E st t ∧ t.heap[q]? = some ce ∧ ce.vm = .none ∧ st.vm.findClass E = some ce.cls ∧ st.WarmedH t.vm ∧ st.sameButNew ({ t with vm := st.vm } : State) L mc ms ∧ ∀ z ∈ L, free z.base
def vx_Q (Qc : Array Value → State → Outcome → State → Prop) (XC : String → State → State → Prop) (mc ms : Nat) (free : Addr → Prop) : Array Value → State → Outcome → State → Prop := fun a st o t =>
  (Qc a st o t ∧ ∃ L, FrameEnd st o t L mc ms ∧ ∀ q ∈ L, free q.base) ∨ ∃ q, o = .threw q ∧ vx_T XC st q t mc ms free
/-- a callee that returns or throws -/
def vx_Met (l : Launch) (y : MethodName) (ws : List Cond) (rm : Room) (Pc : Array Value → State → Prop) (Qc : Array Value → State → Outcome → State → Prop) (XC : String → State → State → Prop) (mc ms : Nat) (free : Addr → Prop) : Prop :=
  MetFree l y (headSpec ws rm) Pc (fun _ _ _ _ _ => True) (vx_Q Qc XC mc ms free)
def vx_Post (XC : String → State → State → Prop) (mc ms : Nat) (free : Addr → Prop) : Pt → Array Value → Addr → Pt → Prop := fun A a q B =>
  ∃ (g : JFrame) (mk : MethodId) (t : State) (L : List Loc) (E : String) (ce : Cell), B.U.heap = t.heap ∧ B.U.vm = t.vm ∧ XC E (A.U.calling g mk a) t ∧ t.heap[q]? = some ce ∧ ce.vm = .none ∧ A.U.vm.findClass E = some ce.cls ∧ B.locs = A.locs ++ L ∧ (∀ z ∈ L, free z.base) ∧ B.cells = A.cells + mc ∧ B.slots = A.slots + ms
def vx_Back (l : Launch) (R : Room) (p : Program) (e : Env) (below : List Frame) (s : State) (sargs : Array Value) (y : MethodName) (len W9 : Nat)
    (Pre : Pt → Array Value → Prop) (Post : Pt → Array Value → Option Value → Pt → Prop) (PostX : Pt → Array Value → Addr → Pt → Prop) : Prop :=
  ∀ (m : MethodId) (meth : Method) (c : Code) (A : Pt) (g : JFrame) (ig : Instr) (mk : MethodId) (a : Array Value),
    Stand p l e R s m sargs below meth c A.U A.locs A.cells A.slots → g.method = m → g.locals.size = c.maxLocals → decode c.code g.pc = .ok (ig, len) →
    2 * g.monitorRoom + (g.stack.map fun v => v.category).sum ≤ W9 → A.U.methodNamed? y = some mk → Pre A a →
    (∃ (v : Option Value) (B : Pt), Stand p l e R s m sargs below meth c B.U B.locs B.cells B.slots ∧ Post A a v B ∧
      Steps p.tables e below (doInvoke e (A.U.setTop g) [] mk a).1 (B.U.setTop { g with pc := g.pc + len, stack := v.toList ++ g.stack })) ∨
    (∃ (q : Addr) (B : Pt), Stand p l e R s m sargs below meth c B.U B.locs B.cells B.slots ∧ PostX A a q B ∧
      Steps p.tables e below (doInvoke e (A.U.setTop g) [] mk a).1 ((B.U.setTop g).pushFrame (.throwing q)))
section Payer
variable {l : Launch} {R : Room} {p : Program} {e : Env} {below : List Frame} {s : State} {sargs : Array Value} {y : MethodName} {len W9 : Nat}
theorem vx_back {ws : List Cond} {rm : Room} {Pc : Array Value → State → Prop} {Qc : Array Value → State → Outcome → State → Prop} {XC : String → State → State → Prop} {mc ms : Nat} {free : Addr → Prop} {bytes : ByteArray} {maxL : Nat} {ret : Option FieldType}
    (hM : vx_Met l y ws rm Pc Qc XC mc ms free) (hblind : FrameBlind Pc) (hrc : rm.cells = mc) (hrs : rm.slots = ms)
    (hframes : rm.frames + 1 ≤ R.frames) (hlocals : W9 + (maxL + 11) + rm.locals ≤ R.locals)
    (hws : ∀ w ∈ ws, ∀ a' U, s.WarmedH U.vm → w.before a' U = true) (hcode : Cond.code y bytes maxL ret ∈ ws) (hinit : ∀ a' U, s.WarmedH U.vm → (Cond.initialized y.cls).before a' U = true) :
    vx_Back l R p e below s sargs y len W9 (PreOf R mc ms Pc) (PostOf Qc mc ms free) (vx_Post XC mc ms free) := by
  intro m meth c A g ig mk a X hg hsize hdg hW hn hp
  have h1 : (headSpec ws rm).pre.before a A.U = true := atoms_intro fun w hw => hws w hw _ _ X.warmed
  have h2 : (Cond.code y bytes maxL ret).before a A.U = true := hws _ hcode _ _ X.warmed
  have h3 : (Cond.initialized y.cls).before a A.U = true := hinit _ _ X.warmed
  have h4 : A.cells + (headSpec ws rm).room.cells ≤ R.cells := by rw [show (headSpec ws rm).room.cells = mc from hrc]; exact hp.1
  have h5 : A.slots + (headSpec ws rm).room.slots ≤ R.slots := by rw [show (headSpec ws rm).room.slots = ms from hrs]; exact hp.2.1
  have hPc : Pc a (A.U.calling g mk a) := hblind _ _ _ _ hp.2.2
  obtain ⟨U, Ls, c0, s0⟩ := A
  dsimp only [Pt.U, Pt.locs, Pt.cells, Pt.slots] at h1 h2 h3 h4 h5 X hn hPc ⊢
  obtain ⟨methY, cY, hmY, hcY, -, hlY, -, -, -, -⟩ := Cond.code_spec hn h2
  obtain ⟨kY, hkY, -⟩ := className_of_methodNamed hn
  have hinitY : kY.init = .initialized := Cond.initialized_spec (findClass_of_methodNamed hn) hkY h3
  have h : At U g.method c below := by rw [hg]; exact X.here
  have hlocals9 : W9 + (maxL + 11) + (headSpec ws rm).room.locals ≤ R.locals := hlocals
  have happ : (headSpec ws rm).appliesLoose y e.platform (U.calling g mk a) = true :=
    Spec.appliesLoose_calling (g := g) h hdg hn hkY hinitY
      (X.room_calling (g := g) (R' := (headSpec ws rm).room) hsize hmY hcY hframes (by rw [hlY]; omega) h4 h5) h1
  obtain ⟨mid, hmid⟩ := h.above
  have hfr : (U.setTop g).frames = (.java g :: mid) ++ below := by rw [State.frames_setTop' g h.top, hmid]; rfl
  obtain ⟨o, s₂, hsteps, -, hend, hq⟩ := Steps.callFree hM p X.admits X.cas X.clock (acts := []) hfr happ hPc trivial
  have hq' : vx_Q Qc XC mc ms free a (U.calling g mk a) o s₂ := hq
  rw [State.frames_setTop' g h.top] at hend
  obtain ⟨g₀, hg0⟩ := Option.isSome_iff_exists.mp h.top
  obtain ⟨r, hr⟩ := State.topJava?_eq_some.mp hg0
  have hr' : (({ U with heap := s₂.heap, slotsUsed := s₂.slotsUsed } : State).setVm s₂.vm).frames = .java g₀ :: r := hr
  rcases hq' with ⟨hqc, L, hfe, hL⟩ | ⟨q, rfl, E, ce, L, hx, hce, hcv, hcl, hW₂, hsm, hL⟩
  · obtain ⟨⟨v, rfl⟩, hW₂, e2, q2, q3, q4, q5, q6⟩ := id hfe
    have e3 : s₂ = ({ (U.calling g mk a).setFrames s₂.frames with heap := s₂.heap, slotsUsed := s₂.slotsUsed } : State).setVm s₂.vm := by
      have : s₂ = ({ s₂ with vm := (U.calling g mk a).vm } : State).setVm s₂.vm := rfl
      rw [e2] at this
      exact this
    obtain ⟨c₂, i₂, len₂, hc₂, hd₂, hf₂⟩ := hend
    have hW' : U.WarmedH s₂.vm := hW₂
    have hcc : c₂ = c := by
      have h1 : s₂.code? g.method = U.code? g.method := by
        rw [State.code?_eq, State.code?_eq, hW'.alike.method?]
      exact Option.some.inj (hc₂.symm.trans (h1.trans h.code))
    subst hcc
    have hlen : len₂ = len := by rw [hdg] at hd₂; cases hd₂; rfl
    subst hlen
    have hs₂ : s₂ = (({ U with heap := s₂.heap, slotsUsed := s₂.slotsUsed } : State).setVm s₂.vm).setTop { g with pc := g.pc + len₂, stack := v.toList ++ g.stack } := by
      refine e3.trans ?_
      rw [hf₂, State.calling_eq h.top, State.setFrames_setFrames, State.setTop_of_frames _ hr', hr]
      rfl
    have hsame : U.sameButNew ({ U with heap := s₂.heap, slotsUsed := s₂.slotsUsed } : State) L mc ms := by
      refine ⟨?_, q2, q3, q4, q5, q6⟩
      obtain ⟨t, ht, -⟩ := State.frames_cons hr
      show ({ U with heap := s₂.heap, slotsUsed := s₂.slotsUsed } : State) = { U.setFrames U.frames with heap := s₂.heap, slotsUsed := s₂.slotsUsed }
      rw [State.setFrames_self ht]
    subst hg
    refine Or.inl ⟨v, ⟨(({ U with heap := s₂.heap, slotsUsed := s₂.slotsUsed } : State).setVm s₂.vm), Ls ++ L, c0 + mc, s0 + ms⟩,
      ⟨X.admits, X.cas, X.clock, X.frames, X.room, X.hears, X.method, X.code, (X.here.setHeapUsed s₂.heap s₂.slotsUsed).setVm hW'.alike, X.tail, State.WarmedH.trans X.warmed hW', X.limits, X.bytes, X.same.trans (hsame.setVm s.vm)⟩,
      ⟨g, mk, s₂, L, rfl, rfl, hqc, rfl, hL, rfl, rfl⟩, ?_⟩
    show Steps p.tables e below _ ((({ U with heap := s₂.heap, slotsUsed := s₂.slotsUsed } : State).setVm s₂.vm).setTop { g with pc := g.pc + len₂, stack := v.toList ++ g.stack })
    rw [← hs₂]
    exact hsteps
  · obtain ⟨e2, q2, q3, q4, q5, q6⟩ := id hsm
    have e3 : s₂ = ({ (U.calling g mk a).setFrames s₂.frames with heap := s₂.heap, slotsUsed := s₂.slotsUsed } : State).setVm s₂.vm := by
      have : s₂ = ({ s₂ with vm := (U.calling g mk a).vm } : State).setVm s₂.vm := rfl
      rw [e2] at this
      exact this
    have hf₂ : s₂.frames = .throwing q :: .java g :: U.frames.tail := hend
    have hW' : U.WarmedH s₂.vm := hW₂
    have hs₂ : s₂ = ((({ U with heap := s₂.heap, slotsUsed := s₂.slotsUsed } : State).setVm s₂.vm).setTop g).pushFrame (.throwing q) := by
      refine e3.trans ?_
      rw [hf₂, State.calling_eq h.top, State.setFrames_setFrames, State.pushFrame, State.frames_setTop _ hr', State.setTop_of_frames _ hr', State.setFrames_setFrames, hr]
      rfl
    have hsame : U.sameButNew ({ U with heap := s₂.heap, slotsUsed := s₂.slotsUsed } : State) L mc ms := by
      refine ⟨?_, q2, q3, q4, q5, q6⟩
      obtain ⟨t, ht, -⟩ := State.frames_cons hr
      show ({ U with heap := s₂.heap, slotsUsed := s₂.slotsUsed } : State) = { U.setFrames U.frames with heap := s₂.heap, slotsUsed := s₂.slotsUsed }
      rw [State.setFrames_self ht]
    subst hg
    refine Or.inr ⟨q, ⟨(({ U with heap := s₂.heap, slotsUsed := s₂.slotsUsed } : State).setVm s₂.vm), Ls ++ L, c0 + mc, s0 + ms⟩,
      ⟨X.admits, X.cas, X.clock, X.frames, X.room, X.hears, X.method, X.code, (X.here.setHeapUsed s₂.heap s₂.slotsUsed).setVm hW'.alike, X.tail, State.WarmedH.trans X.warmed hW', X.limits, X.bytes, X.same.trans (hsame.setVm s.vm)⟩,
      ⟨g, mk, s₂, L, E, ce, rfl, rfl, hx, hce, hcv, hcl, rfl, hL, rfl, rfl⟩, ?_⟩
    show Steps p.tables e below _ (((({ U with heap := s₂.heap, slotsUsed := s₂.slotsUsed } : State).setVm s₂.vm).setTop g).pushFrame (.throwing q))
    rw [← hs₂]
    exact hsteps
end Payer
section Calls
variable {p : Program} {l : Launch} {e : Env} {R : Room} {s : State} {m : MethodId} {args : Array Value} {below : List Frame} {meth : Method} {c : Code} {T : State} {locs : List Loc} {cells slots : Nat}
theorem vx_callV (X : Stand p l e R s m args below meth c T locs cells slots) (hexec : p.tables.exec = Jvm.exec) {own C : String} {index : Nat} {y : MethodName} {bytes : ByteArray} {maxL : Nat} {ret : Option FieldType}
    (hown : s.vm.findClass own = some m.cls) (hlink : (Cond.methodLink own index y).before args s = true) (hinst : (Cond.instanceMethod y).before args s = true) (hsel : (Cond.selects C y y).before args s = true)
    (hcode : (Cond.code y bytes maxL ret).before args s = true) (hy : y.cls ≠ "java/lang/invoke/MethodHandle" ∧ y.cls ≠ "java/lang/invoke/VarHandle")
    {W9 : Nat} {Pre : Pt → Array Value → Prop} {Post : Pt → Array Value → Option Value → Pt → Prop} {PostX : Pt → Array Value → Addr → Pt → Prop} (hK : vx_Back l R p e below s args y 3 W9 Pre Post PostX)
    {b : Addr} {cellB : Cell} (hcell : T.heap[b]? = some cellB) (hobj : cellB.vm.isStatics = false) (hcls : s.vm.findClass C = some cellB.cls)
    {g : JFrame} (hg : g.method = m) (hsize : g.locals.size = c.maxLocals) {argsL rest : List Value} (hlen : ∀ sig, parseMethodDescriptor y.desc = some sig → argsL.length = sig.parameters.length)
    (hstack : g.stack = argsL.reverse ++ .ref b :: rest) (hW : 2 * g.monitorRoom + (rest.map fun v => v.category).sum ≤ W9) (hdg : decode c.code g.pc = .ok (.invokevirtual index, 3))
    (hpre : ∀ vm₁, s.WarmedH vm₁ → Pre ⟨T.setVm vm₁, locs, cells, slots⟩ (Value.ref b :: argsL).toArray) :
    (∃ (v : Option Value) (vm₁ : Vm) (B : Pt), s.WarmedH vm₁ ∧ Stand p l e R s m args below meth c B.U B.locs B.cells B.slots ∧ Post ⟨T.setVm vm₁, locs, cells, slots⟩ (Value.ref b :: argsL).toArray v B ∧
      ∀ target, Steps p.tables e below (B.U.setTop { g with pc := g.pc + 3, stack := v.toList ++ rest }) target → Steps p.tables e below (T.setTop g) target) ∨
    (∃ (q : Addr) (vm₁ : Vm) (B : Pt), s.WarmedH vm₁ ∧ Stand p l e R s m args below meth c B.U B.locs B.cells B.slots ∧ PostX ⟨T.setVm vm₁, locs, cells, slots⟩ (Value.ref b :: argsL).toArray q B ∧
      Steps p.tables e below (T.setTop g) ((B.U.setTop { g with stack := rest }).pushFrame (.throwing q))) := by
  obtain ⟨mk, methM, hnamed, hmethM, hstM, habM⟩ := Cond.instanceMethod_spec hinst
  obtain ⟨methM', cM, hmethM', -, -, -, -, -, -, hsigM⟩ := Cond.code_spec hnamed hcode
  cases hmethM.symm.trans hmethM'
  obtain ⟨c2, r2, m2, q1, q2, q3, q4, kP, hkP, hkPi⟩ := Cond.selects_spec hsel
  cases hcls.symm.trans q1
  cases (State.methodFound?_of_named hnamed hy).symm.trans q2
  cases hnamed.symm.trans q3
  have hselP : selectMethod e.platform s.vm cellB.cls mk = .method mk := by rw [Launch.admits_selectMethod X.admits]; exact q4
  obtain ⟨vm₁, X₁, hstep₁⟩ := X.invokevirtual hexec hown hlink hnamed hmethM hstM hkP hkPi hy (a := b) (cell := cellB) hcell
    (fun z h => by rw [h] at hobj; cases hobj) hselP hmethM habM hkP hkPi (g := g) hg (argsL := argsL) (rest := rest) (hlen _ hsigM) hstack hdg
  rcases hK m meth c ⟨T.setVm vm₁, locs, cells, slots⟩ { g with stack := rest } (.invokevirtual index) mk (Value.ref b :: argsL).toArray X₁ hg hsize hdg hW (X₁.named hnamed) (hpre vm₁ X₁.warmed) with ⟨v, B, X', hpost, hsteps⟩ | ⟨q, B, X', hpost, hsteps⟩
  · exact Or.inl ⟨v, vm₁, B, X₁.warmed, X', hpost, fun target h => hstep₁ _ fun acts => by rw [doInvoke_state]; exact hsteps.trans h⟩
  · exact Or.inr ⟨q, vm₁, B, X₁.warmed, X', hpost, hstep₁ _ fun acts => by rw [doInvoke_state]; exact hsteps⟩
theorem vx_callS (X : Stand p l e R s m args below meth c T locs cells slots) (hexec : p.tables.exec = Jvm.exec) {own : String} {index : Nat} {y : MethodName} {bytes : ByteArray} {maxL : Nat} {ret : Option FieldType}
    (hown : s.vm.findClass own = some m.cls) (hlink : (Cond.methodLink own index y).before args s = true) (hstat : (Cond.static y).before args s = true) (hinit : (Cond.initialized y.cls).before args s = true)
    (hcode : (Cond.code y bytes maxL ret).before args s = true) (hy : y.cls ≠ "java/lang/invoke/MethodHandle" ∧ y.cls ≠ "java/lang/invoke/VarHandle")
    {W9 : Nat} {Pre : Pt → Array Value → Prop} {Post : Pt → Array Value → Option Value → Pt → Prop} {PostX : Pt → Array Value → Addr → Pt → Prop} (hK : vx_Back l R p e below s args y 3 W9 Pre Post PostX)
    {g : JFrame} (hg : g.method = m) (hsize : g.locals.size = c.maxLocals) {argsL rest : List Value} (hlen : ∀ sig, parseMethodDescriptor y.desc = some sig → argsL.length = sig.parameters.length)
    (hstack : g.stack = argsL.reverse ++ rest) (hW : 2 * g.monitorRoom + (rest.map fun v => v.category).sum ≤ W9) (hdg : decode c.code g.pc = .ok (.invokestatic index, 3))
    (hpre : ∀ vm₁, s.WarmedH vm₁ → Pre ⟨T.setVm vm₁, locs, cells, slots⟩ argsL.toArray) :
    (∃ (v : Option Value) (vm₁ : Vm) (B : Pt), s.WarmedH vm₁ ∧ Stand p l e R s m args below meth c B.U B.locs B.cells B.slots ∧ Post ⟨T.setVm vm₁, locs, cells, slots⟩ argsL.toArray v B ∧
      ∀ target, Steps p.tables e below (B.U.setTop { g with pc := g.pc + 3, stack := v.toList ++ rest }) target → Steps p.tables e below (T.setTop g) target) ∨
    (∃ (q : Addr) (vm₁ : Vm) (B : Pt), s.WarmedH vm₁ ∧ Stand p l e R s m args below meth c B.U B.locs B.cells B.slots ∧ PostX ⟨T.setVm vm₁, locs, cells, slots⟩ argsL.toArray q B ∧
      Steps p.tables e below (T.setTop g) ((B.U.setTop { g with stack := rest }).pushFrame (.throwing q))) := by
  obtain ⟨mk, hnamed⟩ := Cond.code_named hcode
  obtain ⟨methM, cM, hmethM, -, -, -, -, -, -, hsigM⟩ := Cond.code_spec hnamed hcode
  have hstatic : methM.isStatic = true := Cond.static_spec hnamed hmethM hstat
  obtain ⟨kP, hkP, -⟩ := className_of_methodNamed hnamed
  have hinitP : kP.init = .initialized := Cond.initialized_spec (findClass_of_methodNamed hnamed) hkP hinit
  obtain ⟨vm₁, X₁, hstep₁⟩ := X.invokestatic hexec hown hlink hnamed hmethM hstatic hkP hinitP hy (g := g) hg (argsL := argsL) (rest := rest) (hlen _ hsigM) hstack hdg
  rcases hK m meth c ⟨T.setVm vm₁, locs, cells, slots⟩ { g with stack := rest } (.invokestatic index) mk argsL.toArray X₁ hg hsize hdg hW (X₁.named hnamed) (hpre vm₁ X₁.warmed) with ⟨v, B, X', hpost, hsteps⟩ | ⟨q, B, X', hpost, hsteps⟩
  · exact Or.inl ⟨v, vm₁, B, X₁.warmed, X', hpost, fun target h => hstep₁ _ fun acts => by rw [doInvoke_state]; exact hsteps.trans h⟩
  · exact Or.inr ⟨q, vm₁, B, X₁.warmed, X', hpost, hstep₁ _ fun acts => by rw [doInvoke_state]; exact hsteps⟩
end Calls
theorem vx_cls {s : State} {T : State} {vm₁ : Vm} {E : String} {k : ClassId} (hW : s.WarmedH vm₁) (h : (T.setVm vm₁).vm.findClass E = some k) : s.vm.findClass E = some k := by
  have h1 : vm₁.findClass E = some k := h
  rw [hW.alike.findClass] at h1
  exact h1
/-- the method's frame g, with q thrown over it -/
def vx_W (p : Program) (l : Launch) (e : Env) (R : Room) (s : State) (m : MethodId) (args : Array Value) (below : List Frame) (meth : Method) (c : Code) (H : Heap) (locs : List Loc) (cells slots : Nat) (Q : State → Prop) (g : JFrame) (q : Addr) : Prop :=
  ∀ T : State, T.heap = H → Stand p l e R s m args below meth c T locs cells slots → ∃ t, Steps p.tables e below ((T.setTop g).pushFrame (.throwing q)) t ∧ Q t
def vx_Run (p : Program) (l : Launch) (e : Env) (R : Room) (s : State) (m : MethodId) (args : Array Value) (below : List Frame) (meth : Method) (c : Code) (H : Heap) (locs : List Loc) (cells slots mc ms : Nat) (g : JFrame) (rest : List Value) (Qa : State → Outcome → State → Prop) (XC : String → State → State → Prop) (free : Addr → Prop) : Prop :=
  ∀ T : State, T.heap = H → Stand p l e R s m args below meth c T locs cells slots →
    (∃ (v : Option Value) (st₀ t T' : State) (L : List Loc), st₀.heap = H ∧ Stand p l e R s m args below meth c T' (locs ++ L) (cells + mc) (slots + ms) ∧ (∀ q ∈ L, free q.base) ∧ T'.heap = t.heap ∧ T'.vm = t.vm ∧ Qa st₀ (.returned v) t ∧
      Goes p e below T g T' { g with pc := g.pc + 3, stack := v.toList ++ rest }) ∨
    (∃ (q : Addr) (st₀ t T' : State) (L : List Loc) (E : String) (ce : Cell), st₀.heap = H ∧ Stand p l e R s m args below meth c T' (locs ++ L) (cells + mc) (slots + ms) ∧ (∀ z ∈ L, free z.base) ∧ T'.heap = t.heap ∧ T'.vm = t.vm ∧ XC E st₀ t ∧ t.heap[q]? = some ce ∧ ce.vm = .none ∧ s.vm.findClass E = some ce.cls ∧
      Steps p.tables e below (T.setTop g) ((T'.setTop { g with stack := rest }).pushFrame (.throwing q)))
def vx_X {S : Type} (px : S → Prop) (B : String → S → State → Prop) (A : Nat → Prop) : String → State → State → Prop := fun E st t => ∃ u : S, px u ∧ B E u t ∧ va_F A st t
section Runs
variable {p : Program} {l : Launch} {e : Env} {R : Room} {s : State} {m : MethodId} {args : Array Value} {below : List Frame} {meth : Method} {c : Code} {H : Heap} {locs : List Loc} {cells slots : Nat}
variable {y : MethodName} {bytes cc : ByteArray} {maxL nL mc ms n index : Nat} {ret : Option FieldType} {ws : List Cond} {rm : Room} {Pc : Array Value → State → Prop} {Qc : Array Value → State → Outcome → State → Prop} {XC : String → State → State → Prop} {free : Addr → Prop} {Ts : List Cond} {own C : String} {b : Addr} {As rest : List Value} {g : JFrame}
theorem vx_callBack (cb : CallB R s args own index y bytes maxL ret ws rm mc ms n) (hM : vx_Met l y ws rm Pc Qc XC mc ms free) (hbl : FrameBlind Pc) : vx_Back l R p e below s args y 3 8 (PreOf R mc ms Pc) (PostOf Qc mc ms free) (vx_Post XC mc ms free) := by
  obtain ⟨hrc, hrs, hfr, hlo, hws, hcw, -, hini, -⟩ := cb
  exact vx_back (bytes := bytes) (maxL := maxL) (ret := ret) hM hbl hrc hrs hfr hlo hws hcw (fun a' U hW => word_at hW (Or.inl (by first | rfl | simp [Cond.onTables, Cond.keeps, Cond.steady])) hini)
theorem vx_runV (S : CallFix p m c cc nL s args Ts own) (hM : vx_Met l y ws rm Pc Qc XC mc ms free) (cw : CallW R s args own C index y bytes maxL ret ws rm mc ms n) (hp : PreV s H C b Pc As)
    (hg : g.method = m) (hn : As.length = n) (hsize : g.locals.size = nL) (hstack : g.stack = As.reverse ++ .ref b :: rest) (hW : 2 * g.monitorRoom + (rest.map fun v => v.category).sum ≤ 8) (hdg : decode cc g.pc = .ok (.invokevirtual index, 3)) (hf : cells + mc ≤ R.cells ∧ slots + ms ≤ R.slots) :
    vx_Run p l e R s m args below meth c H locs cells slots mc ms g rest (Qc (Value.ref b :: As).toArray) XC free := by
  have hK : vx_Back l R p e below s args y 3 8 (PreOf R mc ms Pc) (PostOf Qc mc ms free) (vx_Post XC mc ms free) := vx_callBack cw.1 hM hp.1
  obtain ⟨⟨-, -, -, -, -, -, hcode, -, hy, hlen, hl⟩, hin, hse⟩ := cw
  obtain ⟨hx, hb, hml, ho, -⟩ := S
  obtain ⟨-, ⟨cellB, hcB, hoB, hclB⟩, hPc⟩ := hp
  intro T hT X
  rcases vx_callV X hx (C := C) (bytes := bytes) (maxL := maxL) (ret := ret) ho hl hin hse hcode hy hK (by rw [hT]; exact hcB) hoB hclB hg (hsize.trans hml.symm) (argsL := As) (rest := rest) (fun sig h => hn.trans (hlen sig h)) hstack hW (by rw [hb]; exact hdg)
    (fun vm₁ hW₁ => ⟨hf.1, hf.2, hPc (T.setVm vm₁) hT hW₁⟩) with ⟨v, vm₁, ⟨U', l2, c2, s2⟩, hW₁, X', ⟨g', mk, t, L, e1, e2, hq, h1, hL, h2, h3⟩, st⟩ | ⟨q, vm₁, ⟨U', l2, c2, s2⟩, hW₁, X', ⟨g', mk, t, L, E, ce, e1, e2, hq, hce, hcv, hcl, h1, hL, h2, h3⟩, st⟩
  · dsimp only [Pt.U, Pt.locs, Pt.cells, Pt.slots] at X' e1 e2 h1 h2 h3 st
    subst h1; subst h2; subst h3
    exact Or.inl ⟨v, (T.setVm vm₁).calling g' mk (Value.ref b :: As).toArray, t, U', L, hT, X', hL, e1, e2, hq, st⟩
  · dsimp only [Pt.U, Pt.locs, Pt.cells, Pt.slots] at X' e1 e2 h1 h2 h3 st hcl
    subst h1; subst h2; subst h3
    exact Or.inr ⟨q, (T.setVm vm₁).calling g' mk (Value.ref b :: As).toArray, t, U', L, E, ce, hT, X', hL, e1, e2, hq, hce, hcv, vx_cls hW₁ hcl, st⟩
theorem vx_runS (S : CallFix p m c cc nL s args Ts own) (hM : vx_Met l y ws rm Pc Qc XC mc ms free) (cw : CallB R s args own index y bytes maxL ret ws rm mc ms n ∧ (Cond.static y).before args s = true) (hp : PreS s H Pc As)
    (hg : g.method = m) (hn : As.length = n) (hsize : g.locals.size = nL) (hstack : g.stack = As.reverse ++ rest) (hW : 2 * g.monitorRoom + (rest.map fun v => v.category).sum ≤ 8) (hdg : decode cc g.pc = .ok (.invokestatic index, 3)) (hf : cells + mc ≤ R.cells ∧ slots + ms ≤ R.slots) :
    vx_Run p l e R s m args below meth c H locs cells slots mc ms g rest (Qc As.toArray) XC free := by
  have hK : vx_Back l R p e below s args y 3 8 (PreOf R mc ms Pc) (PostOf Qc mc ms free) (vx_Post XC mc ms free) := vx_callBack cw.1 hM hp.1
  obtain ⟨⟨-, -, -, -, -, -, hcode, hini, hy, hlen, hl⟩, hstt⟩ := cw
  obtain ⟨hx, hb, hml, ho, -⟩ := S
  intro T hT X
  rcases vx_callS X hx (bytes := bytes) (maxL := maxL) (ret := ret) ho hl hstt hini hcode hy hK hg (hsize.trans hml.symm) (argsL := As) (rest := rest) (fun sig h => hn.trans (hlen sig h)) hstack hW (by rw [hb]; exact hdg)
    (fun vm₁ hW₁ => ⟨hf.1, hf.2, hp.2 (T.setVm vm₁) hT hW₁⟩) with ⟨v, vm₁, ⟨U', l2, c2, s2⟩, hW₁, X', ⟨g', mk, t, L, e1, e2, hq, h1, hL, h2, h3⟩, st⟩ | ⟨q, vm₁, ⟨U', l2, c2, s2⟩, hW₁, X', ⟨g', mk, t, L, E, ce, e1, e2, hq, hce, hcv, hcl, h1, hL, h2, h3⟩, st⟩
  · dsimp only [Pt.U, Pt.locs, Pt.cells, Pt.slots] at X' e1 e2 h1 h2 h3 st
    subst h1; subst h2; subst h3
    exact Or.inl ⟨v, (T.setVm vm₁).calling g' mk As.toArray, t, U', L, hT, X', hL, e1, e2, hq, st⟩
  · dsimp only [Pt.U, Pt.locs, Pt.cells, Pt.slots] at X' e1 e2 h1 h2 h3 st hcl
    subst h1; subst h2; subst h3
    exact Or.inr ⟨q, (T.setVm vm₁).calling g' mk As.toArray, t, U', L, E, ce, hT, X', hL, e1, e2, hq, hce, hcv, vx_cls hW₁ hcl, st⟩
end Runs
section Rows
variable {p : Program} {l : Launch} {e : Env} {R : Room} {s : State} {m : MethodId} {args : Array Value} {below : List Frame} {meth : Method} {c : Code} {H : Heap} {locs : List Loc} {cells slots : Nat} {Q : State → Prop}
variable {mc ms : Nat} {free : Addr → Prop} {A0 A1 : Nat → Prop} {H0 : Heap} {a : Array Value} {pc : Nat} {ls : Array Slot} {st0 rest : List Value}
theorem vx_keep {st₀ t T' : State} {L : List Loc} (h0 : st₀.heap = H) (e1 : T'.heap = t.heap) (hS : va_S A0 H0 H locs) (hA : ∀ q, q < H.size → A1 q → A0 q) (hf : ∀ q, free q → A0 q) (hL : ∀ q ∈ L, free q.base) (hF : va_F A1 st₀ t) :
    H.size ≤ T'.heap.size ∧ (∀ q : Nat, q < H.size → ¬ A1 q → T'.heap[q]? = H[q]?) ∧ va_S A0 H0 T'.heap (locs ++ L) := by
  obtain ⟨hz, hk⟩ := hF
  rw [h0] at hz hk
  exact ⟨by rw [e1]; exact hz, fun q h1 h2 => by rw [e1]; exact hk q h1 h2,
    ⟨Nat.le_trans hS.1 (by rw [e1]; exact hz), fun q h1 h2 => by rw [e1, hk q (Nat.lt_of_lt_of_le h1 hS.1) (fun z => h2 (hA q (Nat.lt_of_lt_of_le h1 hS.1) z))]; exact hS.2.1 q h1 h2, fun q hq => by
      rcases List.mem_append.mp hq with h | h
      · exact hS.2.2 q h
      · exact hf _ (hL q h)⟩⟩
theorem vx_calli {S SX : Type} {post : Int32 → S → Prop} {px : SX → Prop} {B : S → State → Prop} {BX : String → SX → State → Prop} {AX : Nat → Prop} (hr : vx_Run p l e R s m args below meth c H locs cells slots mc ms (F0 m pc ls st0) rest (va_Qi post B A1 a) (vx_X px BX AX) free) (hS : va_S A0 H0 H locs) (hA : ∀ q, q < H.size → A1 q → A0 q) (hf : ∀ q, free q → A0 q) (hAX : ∀ q, q < H.size → AX q → A0 q)
    (kx : ∀ (E : String) (ce : Cell) (q9 : Addr) (u : SX) (t : State) (H1 : Heap) (locs1 : List Loc), t.heap = H1 → s.vm.Alike t.vm → px u → BX E u t → H.size ≤ H1.size → (∀ q : Nat, q < H.size → ¬ AX q → H1[q]? = H[q]?) → va_S A0 H0 H1 locs1 → H1[q9]? = some ce → ce.vm = .none → s.vm.findClass E = some ce.cls → vx_W p l e R s m args below meth c H1 locs1 (cells + mc) (slots + ms) Q (F0 m pc ls rest) q9)
    (kk : ∀ (r : Int32) (u : S) (t : State) (H1 : Heap) (locs1 : List Loc), t.heap = H1 → s.vm.Alike t.vm → post r u → B u t → H.size ≤ H1.size → (∀ q : Nat, q < H.size → ¬ A1 q → H1[q]? = H[q]?) → va_S A0 H0 H1 locs1 → W p l e R s m args below meth c H1 locs1 (cells + mc) (slots + ms) Q (F0 m (pc + 3) ls (.int r :: rest))) : W p l e R s m args below meth c H locs cells slots Q (F0 m pc ls st0) := by
  intro T hT X
  rcases hr T hT X with ⟨v, st₀, t, T', L, h0, X', hL, e1, e2, ⟨⟨r, u, hv, hp, hb⟩, hF⟩, st⟩ | ⟨q, st₀, t, T', L, E, ce, h0, X', hL, e1, e2, ⟨u, hp, hb, hF⟩, hce, hcv, hcl, st⟩
  · cases hv
    obtain ⟨k1, k2, k3⟩ := vx_keep h0 e1 hS hA hf hL hF
    obtain ⟨t2, a1, b1⟩ := kk r u t T'.heap (locs ++ L) e1.symm (by rw [← e2]; exact X'.warmed.alike) hp hb k1 k2 k3 T' rfl X'
    exact ⟨t2, st t2 a1, b1⟩
  · obtain ⟨k1, k2, k3⟩ := vx_keep h0 e1 hS hAX hf hL hF
    obtain ⟨t2, a1, b1⟩ := kx E ce q u t T'.heap (locs ++ L) e1.symm (by rw [← e2]; exact X'.warmed.alike) hp hb k1 k2 k3 (by rw [e1]; exact hce) hcv hcl T' rfl X'
    exact ⟨t2, st.trans a1, b1⟩
theorem vx_calll {S SX : Type} {post : Int64 → S → Prop} {px : SX → Prop} {B : S → State → Prop} {BX : String → SX → State → Prop} {AX : Nat → Prop} (hr : vx_Run p l e R s m args below meth c H locs cells slots mc ms (F0 m pc ls st0) rest (va_Ql post B A1 a) (vx_X px BX AX) free) (hS : va_S A0 H0 H locs) (hA : ∀ q, q < H.size → A1 q → A0 q) (hf : ∀ q, free q → A0 q) (hAX : ∀ q, q < H.size → AX q → A0 q)
    (kx : ∀ (E : String) (ce : Cell) (q9 : Addr) (u : SX) (t : State) (H1 : Heap) (locs1 : List Loc), t.heap = H1 → s.vm.Alike t.vm → px u → BX E u t → H.size ≤ H1.size → (∀ q : Nat, q < H.size → ¬ AX q → H1[q]? = H[q]?) → va_S A0 H0 H1 locs1 → H1[q9]? = some ce → ce.vm = .none → s.vm.findClass E = some ce.cls → vx_W p l e R s m args below meth c H1 locs1 (cells + mc) (slots + ms) Q (F0 m pc ls rest) q9)
    (kk : ∀ (r : Int64) (u : S) (t : State) (H1 : Heap) (locs1 : List Loc), t.heap = H1 → s.vm.Alike t.vm → post r u → B u t → H.size ≤ H1.size → (∀ q : Nat, q < H.size → ¬ A1 q → H1[q]? = H[q]?) → va_S A0 H0 H1 locs1 → W p l e R s m args below meth c H1 locs1 (cells + mc) (slots + ms) Q (F0 m (pc + 3) ls (.long r :: rest))) : W p l e R s m args below meth c H locs cells slots Q (F0 m pc ls st0) := by
  intro T hT X
  rcases hr T hT X with ⟨v, st₀, t, T', L, h0, X', hL, e1, e2, ⟨⟨r, u, hv, hp, hb⟩, hF⟩, st⟩ | ⟨q, st₀, t, T', L, E, ce, h0, X', hL, e1, e2, ⟨u, hp, hb, hF⟩, hce, hcv, hcl, st⟩
  · cases hv
    obtain ⟨k1, k2, k3⟩ := vx_keep h0 e1 hS hA hf hL hF
    obtain ⟨t2, a1, b1⟩ := kk r u t T'.heap (locs ++ L) e1.symm (by rw [← e2]; exact X'.warmed.alike) hp hb k1 k2 k3 T' rfl X'
    exact ⟨t2, st t2 a1, b1⟩
  · obtain ⟨k1, k2, k3⟩ := vx_keep h0 e1 hS hAX hf hL hF
    obtain ⟨t2, a1, b1⟩ := kx E ce q u t T'.heap (locs ++ L) e1.symm (by rw [← e2]; exact X'.warmed.alike) hp hb k1 k2 k3 (by rw [e1]; exact hce) hcv hcl T' rfl X'
    exact ⟨t2, st.trans a1, b1⟩
theorem vx_callf {S SX : Type} {post : UInt32 → S → Prop} {px : SX → Prop} {B : S → State → Prop} {BX : String → SX → State → Prop} {AX : Nat → Prop} (hr : vx_Run p l e R s m args below meth c H locs cells slots mc ms (F0 m pc ls st0) rest (va_Qf post B A1 a) (vx_X px BX AX) free) (hS : va_S A0 H0 H locs) (hA : ∀ q, q < H.size → A1 q → A0 q) (hf : ∀ q, free q → A0 q) (hAX : ∀ q, q < H.size → AX q → A0 q)
    (kx : ∀ (E : String) (ce : Cell) (q9 : Addr) (u : SX) (t : State) (H1 : Heap) (locs1 : List Loc), t.heap = H1 → s.vm.Alike t.vm → px u → BX E u t → H.size ≤ H1.size → (∀ q : Nat, q < H.size → ¬ AX q → H1[q]? = H[q]?) → va_S A0 H0 H1 locs1 → H1[q9]? = some ce → ce.vm = .none → s.vm.findClass E = some ce.cls → vx_W p l e R s m args below meth c H1 locs1 (cells + mc) (slots + ms) Q (F0 m pc ls rest) q9)
    (kk : ∀ (r : UInt32) (u : S) (t : State) (H1 : Heap) (locs1 : List Loc), t.heap = H1 → s.vm.Alike t.vm → post r u → B u t → H.size ≤ H1.size → (∀ q : Nat, q < H.size → ¬ A1 q → H1[q]? = H[q]?) → va_S A0 H0 H1 locs1 → W p l e R s m args below meth c H1 locs1 (cells + mc) (slots + ms) Q (F0 m (pc + 3) ls (.float r :: rest))) : W p l e R s m args below meth c H locs cells slots Q (F0 m pc ls st0) := by
  intro T hT X
  rcases hr T hT X with ⟨v, st₀, t, T', L, h0, X', hL, e1, e2, ⟨⟨r, u, hv, hp, hb⟩, hF⟩, st⟩ | ⟨q, st₀, t, T', L, E, ce, h0, X', hL, e1, e2, ⟨u, hp, hb, hF⟩, hce, hcv, hcl, st⟩
  · cases hv
    obtain ⟨k1, k2, k3⟩ := vx_keep h0 e1 hS hA hf hL hF
    obtain ⟨t2, a1, b1⟩ := kk r u t T'.heap (locs ++ L) e1.symm (by rw [← e2]; exact X'.warmed.alike) hp hb k1 k2 k3 T' rfl X'
    exact ⟨t2, st t2 a1, b1⟩
  · obtain ⟨k1, k2, k3⟩ := vx_keep h0 e1 hS hAX hf hL hF
    obtain ⟨t2, a1, b1⟩ := kx E ce q u t T'.heap (locs ++ L) e1.symm (by rw [← e2]; exact X'.warmed.alike) hp hb k1 k2 k3 (by rw [e1]; exact hce) hcv hcl T' rfl X'
    exact ⟨t2, st.trans a1, b1⟩
theorem vx_calld {S SX : Type} {post : UInt64 → S → Prop} {px : SX → Prop} {B : S → State → Prop} {BX : String → SX → State → Prop} {AX : Nat → Prop} (hr : vx_Run p l e R s m args below meth c H locs cells slots mc ms (F0 m pc ls st0) rest (va_Qd post B A1 a) (vx_X px BX AX) free) (hS : va_S A0 H0 H locs) (hA : ∀ q, q < H.size → A1 q → A0 q) (hf : ∀ q, free q → A0 q) (hAX : ∀ q, q < H.size → AX q → A0 q)
    (kx : ∀ (E : String) (ce : Cell) (q9 : Addr) (u : SX) (t : State) (H1 : Heap) (locs1 : List Loc), t.heap = H1 → s.vm.Alike t.vm → px u → BX E u t → H.size ≤ H1.size → (∀ q : Nat, q < H.size → ¬ AX q → H1[q]? = H[q]?) → va_S A0 H0 H1 locs1 → H1[q9]? = some ce → ce.vm = .none → s.vm.findClass E = some ce.cls → vx_W p l e R s m args below meth c H1 locs1 (cells + mc) (slots + ms) Q (F0 m pc ls rest) q9)
    (kk : ∀ (r : UInt64) (u : S) (t : State) (H1 : Heap) (locs1 : List Loc), t.heap = H1 → s.vm.Alike t.vm → post r u → B u t → H.size ≤ H1.size → (∀ q : Nat, q < H.size → ¬ A1 q → H1[q]? = H[q]?) → va_S A0 H0 H1 locs1 → W p l e R s m args below meth c H1 locs1 (cells + mc) (slots + ms) Q (F0 m (pc + 3) ls (.double r :: rest))) : W p l e R s m args below meth c H locs cells slots Q (F0 m pc ls st0) := by
  intro T hT X
  rcases hr T hT X with ⟨v, st₀, t, T', L, h0, X', hL, e1, e2, ⟨⟨r, u, hv, hp, hb⟩, hF⟩, st⟩ | ⟨q, st₀, t, T', L, E, ce, h0, X', hL, e1, e2, ⟨u, hp, hb, hF⟩, hce, hcv, hcl, st⟩
  · cases hv
    obtain ⟨k1, k2, k3⟩ := vx_keep h0 e1 hS hA hf hL hF
    obtain ⟨t2, a1, b1⟩ := kk r u t T'.heap (locs ++ L) e1.symm (by rw [← e2]; exact X'.warmed.alike) hp hb k1 k2 k3 T' rfl X'
    exact ⟨t2, st t2 a1, b1⟩
  · obtain ⟨k1, k2, k3⟩ := vx_keep h0 e1 hS hAX hf hL hF
    obtain ⟨t2, a1, b1⟩ := kx E ce q u t T'.heap (locs ++ L) e1.symm (by rw [← e2]; exact X'.warmed.alike) hp hb k1 k2 k3 (by rw [e1]; exact hce) hcv hcl T' rfl X'
    exact ⟨t2, st.trans a1, b1⟩
theorem vx_callv {S SX : Type} {post : S → Prop} {px : SX → Prop} {B : S → State → Prop} {BX : String → SX → State → Prop} {AX : Nat → Prop} (hr : vx_Run p l e R s m args below meth c H locs cells slots mc ms (F0 m pc ls st0) rest (va_Qv post B A1 a) (vx_X px BX AX) free) (hS : va_S A0 H0 H locs) (hA : ∀ q, q < H.size → A1 q → A0 q) (hf : ∀ q, free q → A0 q) (hAX : ∀ q, q < H.size → AX q → A0 q)
    (kx : ∀ (E : String) (ce : Cell) (q9 : Addr) (u : SX) (t : State) (H1 : Heap) (locs1 : List Loc), t.heap = H1 → s.vm.Alike t.vm → px u → BX E u t → H.size ≤ H1.size → (∀ q : Nat, q < H.size → ¬ AX q → H1[q]? = H[q]?) → va_S A0 H0 H1 locs1 → H1[q9]? = some ce → ce.vm = .none → s.vm.findClass E = some ce.cls → vx_W p l e R s m args below meth c H1 locs1 (cells + mc) (slots + ms) Q (F0 m pc ls rest) q9)
    (kk : ∀ (u : S) (t : State) (H1 : Heap) (locs1 : List Loc), t.heap = H1 → s.vm.Alike t.vm → post u → B u t → H.size ≤ H1.size → (∀ q : Nat, q < H.size → ¬ A1 q → H1[q]? = H[q]?) → va_S A0 H0 H1 locs1 → W p l e R s m args below meth c H1 locs1 (cells + mc) (slots + ms) Q (F0 m (pc + 3) ls (rest))) : W p l e R s m args below meth c H locs cells slots Q (F0 m pc ls st0) := by
  intro T hT X
  rcases hr T hT X with ⟨v, st₀, t, T', L, h0, X', hL, e1, e2, ⟨⟨u, hv, hp, hb⟩, hF⟩, st⟩ | ⟨q, st₀, t, T', L, E, ce, h0, X', hL, e1, e2, ⟨u, hp, hb, hF⟩, hce, hcv, hcl, st⟩
  · cases hv
    obtain ⟨k1, k2, k3⟩ := vx_keep h0 e1 hS hA hf hL hF
    obtain ⟨t2, a1, b1⟩ := kk u t T'.heap (locs ++ L) e1.symm (by rw [← e2]; exact X'.warmed.alike) hp hb k1 k2 k3 T' rfl X'
    exact ⟨t2, st t2 a1, b1⟩
  · obtain ⟨k1, k2, k3⟩ := vx_keep h0 e1 hS hAX hf hL hF
    obtain ⟨t2, a1, b1⟩ := kx E ce q u t T'.heap (locs ++ L) e1.symm (by rw [← e2]; exact X'.warmed.alike) hp hb k1 k2 k3 (by rw [e1]; exact hce) hcv hcl T' rfl X'
    exact ⟨t2, st.trans a1, b1⟩
/-- caught by the row x of this method's table; the rows ahead don't take it -/
theorem vx_catch {own name : String} {E : String} {ce : Cell} {q : Addr} (hown : s.vm.findClass own = some m.cls) (pre : List ExceptionTableEntry) (x : ExceptionTableEntry) (suf : List ExceptionTableEntry) (hsplit : c.exceptionTable.toList = pre ++ x :: suf)
    (hpass : ∀ z ∈ pre, covers z pc = false ∨ (z.catchType ≠ 0 ∧ ∃ nm : String, (Cond.classLink own z.catchType nm).before args s = true ∧ va_Nc E nm s)) (hx : covers x pc = true) (h0 : x.catchType ≠ 0)
    (hlink : (Cond.classLink own x.catchType name).before args s = true) (hcast : (Cond.castable E name).before args s = true) (hcell : H[q]? = some ce) (hv : ce.vm = .none) (hcl : s.vm.findClass E = some ce.cls)
    (kk : W p l e R s m args below meth c H locs cells slots Q (F0 m x.handlerPc ls [.ref q])) : vx_W p l e R s m args below meth c H locs cells slots Q (F0 m pc ls rest) q := by
  intro T hT X
  have hpl : e.platform.magicAccessors = ({} : Platform).magicAccessors := by rw [X.admits.platform]
  obtain ⟨c3, c4, hc3, hc4, hasg⟩ := Cond.castable_spec hcast
  cases Option.some.inj (hc3.symm.trans hcl)
  obtain ⟨c5, hc5, hcl5⟩ := Cond.classLink_spec hown hlink e.platform hpl
  cases Option.some.inj (hc4.symm.trans hc5)
  obtain ⟨vm', X', st⟩ := X.thenCaughtThrough q (g := F0 m pc ls rest) rfl (Steps.refl _) (by rw [hT]; exact hcell) (by rw [hv]; rfl) (by obtain ⟨k9, h9, -⟩ := Vm.findClass_spec hcl; exact ⟨k9, h9⟩) pre x suf hsplit
    (fun z hz => by
      rcases hpass z hz with h | ⟨hz0, nm, hl1, hn1⟩
      · exact Or.inl h
      · obtain ⟨c6, hc6, hcl6⟩ := Cond.classLink_spec hown hl1 e.platform hpl
        obtain ⟨a8, b8, h1, h2, h3⟩ := hn1
        cases Option.some.inj (h1.symm.trans hcl)
        cases Option.some.inj (h2.symm.trans hc6)
        exact Or.inr ⟨hz0, _, hcl6, h3⟩) hx (Or.inr ⟨h0, c4, hcl5, hasg⟩)
  obtain ⟨t, a1, b1⟩ := kk (T.setVm vm') hT X'
  exact ⟨t, st.trans a1, b1⟩
end Rows
section Ends
variable {p : Program} {l : Launch} {e : Env} {R : Room} {s : State} {m : MethodId} {args : Array Value} {below : List Frame} {meth : Method} {c : Code} {H : Heap} {locs : List Loc} {cells slots : Nat} {Q : State → Prop}
variable {mc ms : Nat} {free : Addr → Prop} {A0 A1 : Nat → Prop} {H0 : Heap} {a : Array Value} {ls : Array Slot} {st0 rest : List Value}
variable {Qc : Array Value → State → Outcome → State → Prop} {XC : String → State → State → Prop}
/-- what a body that may throw owes at its end -/
def vx_MQ (below : List Frame) (Qc : Array Value → State → Outcome → State → Prop) (XC : String → State → State → Prop) (a : Array Value) (s : State) (mc ms : Nat) (free : Addr → Prop) : State → Prop := fun t =>
  ∃ o, t.status = .running ∧ Ended t below o ∧ vx_Q Qc XC mc ms free a s o t
theorem vx_ret {g : JFrame} {mc ms : Nat} (k : W p l e R s m args below meth c H locs cells slots (MQ below Qc args s mc ms free) g) : W p l e R s m args below meth c H locs cells slots (vx_MQ below Qc XC args s mc ms free) g := by
  intro T hT X
  obtain ⟨t, a1, o, b1, b2, b3, b4⟩ := k T hT X
  exact ⟨t, a1, o, b1, b2, Or.inl ⟨b3, b4⟩⟩
/-- not caught here: it goes on to the caller -/
theorem vx_widen {g : JFrame} {q : Addr} {k n : Nat} (h1 : cells ≤ k) (h2 : slots ≤ n) (kk : vx_W p l e R s m args below meth c H locs k n Q g q) : vx_W p l e R s m args below meth c H locs cells slots Q g q := fun T hT X => kk T hT (stand_widen X h1 h2)
theorem vx_out {pc : Nat} {E : String} {ce : Cell} {q : Addr} {mc ms : Nat} (hout : ∀ x ∈ c.exceptionTable.toList, covers x pc = false) (hlocks : meth.locks = false) (hcell : H[q]? = some ce) (hv : ce.vm = .none) (hcl : s.vm.findClass E = some ce.cls)
    (hx : ∀ t : State, t.heap = H → s.vm.Alike t.vm → XC E s t) (hf : ∀ z ∈ locs, free z.base) (hc : cells ≤ mc) (hs : slots ≤ ms) :
    vx_W p l e R s m args below meth c H locs cells slots (vx_MQ below Qc XC args s mc ms free) (F0 m pc ls rest) q := by
  intro T hT X
  obtain ⟨st1, hrun, hend, hW, hsm⟩ := X.leaveThrown q (g := F0 m pc ls rest) rfl rfl rfl hout hlocks
  have hcell9 : (T.setFrames (.throwing q :: below)).heap[q]? = some ce := by
    show T.heap[q]? = some ce
    rw [hT]; exact hcell
  exact ⟨_, st1, .threw q, hrun, hend, Or.inr ⟨q, rfl, E, ce, locs, hx _ hT hW.alike, hcell9, hv, hcl, hW, hsm.mono hc hs, hf⟩⟩
theorem vx_frame {U : State} {k n : Nat} (h : s.sameButNew ({ U with vm := s.vm } : State) locs k n) : s.heap.size ≤ U.heap.size ∧ ∀ q : Nat, q < s.heap.size → (∀ z ∈ locs, z.base ≠ q) → U.heap[q]? = s.heap[q]? := by
  obtain ⟨-, h2, -, -, -, h6⟩ := h
  refine ⟨h2, fun q hq hz => ?_⟩
  obtain ⟨c9, e1, e2, e3, e4⟩ := h6 q _ (Array.getElem?_eq_getElem hq)
  have hs : c9.slots = (s.heap[q]).slots := Array.ext_getElem? fun i => e4 i fun hm => hz _ hm rfl
  have h9 : c9 = s.heap[q] := by
    rw [hs] at e2
    exact e2
  have e5 : U.heap[q]? = some c9 := e1
  rw [e5, h9, Array.getElem?_eq_getElem hq]
/-- the words of a throw but the four that speak of the heap -/
def vx_no (w : Cond) : Bool := decide (w ≠ .isRef (.static Bundle.tN "UNASSIGNED_STACK" Bundle.steD)) && decide (w ≠ .isRef (.static Bundle.tN "SUPPRESSED_SENTINEL" Bundle.listD)) && decide (w ≠ .laysStatic Bundle.tN "UNASSIGNED_STACK" Bundle.steD) && decide (w ≠ .laysStatic Bundle.tN "SUPPRESSED_SENTINEL" Bundle.listD)
def vx_at0 (own : String) (ic : Nat) (X : String) (names : List String) : List Cond := (Bundle.ownAtoms0 own ic X names).filter vx_no
def vx_atS (own : String) (ic : Nat) (X : String) (names : List String) : List Cond := (Bundle.ownAtoms own ic X names).filter vx_no
/-- a word that the tables alone decide, or a good one -/
def vx_ot (w : Cond) : Bool := w.onTables || goodWord w
theorem vx_ot_at {args a' : Array Value} {s U : State} {w : Cond} (hW : s.WarmedH U.vm) (hvm : s.vm = U.vm) (hg : vx_ot w = true) (h : w.before args s = true) : w.before a' U = true := by
  simp only [vx_ot, Bool.or_eq_true] at hg
  rcases hg with hg | hg
  · exact va_tabs hg hvm h
  · exact word_at hW (good_of_word hg) h
/-- a list's words: the good ones out of the method's own list, the others by premises of their own -/
theorem vx_hat {args : Array Value} {s : State} {L B : List Cond} (h1 : ∀ w ∈ L.filter goodWord, w.before args s = true) (h2 : ∀ w ∈ L.filter (fun w => !goodWord w), w ∈ B) (h3 : ∀ w ∈ B, w.before args s = true) : ∀ w ∈ L, w.before args s = true := by
  intro w hw
  by_cases g : goodWord w = true
  · exact h1 w (List.mem_filter.mpr ⟨hw, g⟩)
  · refine h3 w (h2 w (List.mem_filter.mpr ⟨hw, ?_⟩))
    show (!goodWord w) = true
    cases hgw : goodWord w
    · rfl
    · exact absurd hgw g
theorem vx_c {args : Array Value} {s : State} {w : Cond} {B : List Cond} (h : w.before args s = true) (t : ∀ w ∈ B, w.before args s = true) : ∀ w' ∈ w :: B, w'.before args s = true := fun w' h' => (List.mem_cons.mp h').elim (fun e => by rw [e]; exact h) (t w')
theorem vx_n {args : Array Value} {s : State} : ∀ w ∈ ([] : List Cond), w.before args s = true := fun _ h => nomatch h
theorem vx_own {args : Array Value} {s : State} {L : List Cond} (h1 : ∀ w ∈ L.filter vx_no, w.before args s = true)
    (hU : (Cond.isRef (.static Bundle.tN "UNASSIGNED_STACK" Bundle.steD)).before args s = true) (hN : (Cond.isRef (.static Bundle.tN "SUPPRESSED_SENTINEL" Bundle.listD)).before args s = true)
    (lU : (Cond.laysStatic Bundle.tN "UNASSIGNED_STACK" Bundle.steD).before args s = true) (lN : (Cond.laysStatic Bundle.tN "SUPPRESSED_SENTINEL" Bundle.listD).before args s = true) : ∀ w ∈ L, w.before args s = true := by
  intro w hw
  by_cases e1 : w = .isRef (.static Bundle.tN "UNASSIGNED_STACK" Bundle.steD)
  · rw [e1]; exact hU
  · by_cases e2 : w = .isRef (.static Bundle.tN "SUPPRESSED_SENTINEL" Bundle.listD)
    · rw [e2]; exact hN
    · by_cases e3 : w = .laysStatic Bundle.tN "UNASSIGNED_STACK" Bundle.steD
      · rw [e3]; exact lU
      · by_cases e4 : w = .laysStatic Bundle.tN "SUPPRESSED_SENTINEL" Bundle.listD
        · rw [e4]; exact lN
        · exact h1 w (List.mem_filter.mpr ⟨hw, by unfold vx_no; rw [decide_eq_true e1, decide_eq_true e2, decide_eq_true e3, decide_eq_true e4]; rfl⟩)
/-- where a static field lies, its class's statics cell in H -/
def vx_L (C n d : String) (A : Nat → Prop) (U : State) (H : Heap) : Prop := ∃ (c : ClassId) (k : Class) (i : Nat) (f : Field) (a : Nat) (cell : Cell), U.vm.findClass C = some c ∧ U.fieldFound? C n d = some (c, k, i, f) ∧ f.isStatic = true ∧ k.statics = some a ∧ H[a]? = some cell ∧ cell.vm.isStatics = true ∧ cell.cls = c ∧ f.slot < cell.slots.size ∧ k.staticTypes[f.slot]? = some f.type ∧ ¬ A a
theorem vx_L.moved {C n d : String} {A : Nat → Prop} {u U : State} {H : Heap} (hvm : u.vm.Alike U.vm) (h : vx_L C n d A u H) : vx_L C n d A U H := by
  obtain ⟨c, k, i, f, a, cell, h1, h2, h3, h4, h5, h6, h7, h8, h9, h10⟩ := h
  obtain ⟨k', hi', he⟩ := State.fieldFound?_setVm hvm h2
  exact ⟨c, k', i, f, a, cell, by rw [hvm.findClass]; exact h1, hi', h3, by rw [he]; exact h4, h5, h6, h7, h8, by rw [he]; exact h9, h10⟩
theorem vx_L.kept {C n d : String} {A : Nat → Prop} {U : State} {H H1 : Heap} (h : vx_L C n d A U H) (hq : ∀ a : Nat, a < H.size → ¬ A a → H1[a]? = H[a]?) : vx_L C n d A U H1 := by
  obtain ⟨c, k, i, f, a, cell, h1, h2, h3, h4, h5, h6, h7, h8, h9, h10⟩ := h
  exact ⟨c, k, i, f, a, cell, h1, h2, h3, h4, by rw [hq a (Array.getElem?_eq_some_iff.mp h5).1 h10]; exact h5, h6, h7, h8, h9, h10⟩
theorem vx_L.narrow {C n d : String} {A B : Nat → Prop} {U : State} {H : Heap} (h : vx_L C n d A U H) (hAB : ∀ q, B q → A q) : vx_L C n d B U H := by
  obtain ⟨c, k, i, f, a, cell, h1, h2, h3, h4, h5, h6, h7, h8, h9, h10⟩ := h
  exact ⟨c, k, i, f, a, cell, h1, h2, h3, h4, h5, h6, h7, h8, h9, fun z => h10 (hAB _ z)⟩
theorem vx_L.word {C n d : String} {A : Nat → Prop} {s : State} {args : Array Value} (h : vx_L C n d A s s.heap) : (Cond.laysStatic C n d).before args s = true := by
  obtain ⟨c, k, i, f, a, cell, h1, h2, h3, h4, h5, h6, h7, h8, h9, -⟩ := h
  show (Cond.laysStatic C n d).holds args s none s [] = true
  exact Cond.laysStatic_of h1 h2 h3 h4 h5 h6 h7 h8 h9
/-- .. and what it holds: null or some reference -/
def vx_Zq (C n d : String) (A : Nat → Prop) (U : State) (H : Heap) : Prop := va_Zq C n d A U H ∧ vx_L C n d A U H
theorem vx_Zq.moved {C n d : String} {A : Nat → Prop} {u U : State} {H : Heap} (hvm : u.vm.Alike U.vm) (h : vx_Zq C n d A u H) : vx_Zq C n d A U H := ⟨va_Zq.moved hvm h.1, vx_L.moved hvm h.2⟩
theorem vx_Zq.kept {C n d : String} {A : Nat → Prop} {U : State} {H H1 : Heap} (h : vx_Zq C n d A U H) (hq : ∀ a : Nat, a < H.size → ¬ A a → H1[a]? = H[a]?) : vx_Zq C n d A U H1 := ⟨va_Zq.kept h.1 hq, vx_L.kept h.2 hq⟩
theorem vx_Zq.narrow {C n d : String} {A B : Nat → Prop} {U : State} {H : Heap} (h : vx_Zq C n d A U H) (hAB : ∀ q, B q → A q) : vx_Zq C n d B U H := ⟨va_Zq.narrow h.1 hAB, vx_L.narrow h.2 hAB⟩
theorem vx_Zqof {args : Array Value} {s : State} {C n d : String} {A : Nat → Prop} (hl : (Cond.laysStatic C n d).before args s = true) (hini : (Cond.initialized C).before args s = true) (h : (Cond.isRef (.static C n d)).before args s = true) (hA : ∀ a : Nat, a < s.heap.size → ¬ A a) : vx_Zq C n d A s s.heap := by
  refine ⟨va_Zqof hl hini h hA, ?_⟩
  obtain ⟨c, k, i, f, a, cell, h1, h2, h3, h4, h5, h6, h7, h8, h9⟩ := Cond.laysStatic_spec hl
  exact ⟨c, k, i, f, a, cell, h1, h2, h3, h4, h5, h6, h7, h8, h9, hA a (Array.getElem?_eq_some_iff.mp h5).1⟩
theorem vx_isRef {C n d : String} {v : Value} {A : Nat → Prop} {s : State} {args : Array Value} (h : va_Z C n d v A s s.heap) (hv : v.isRef = true) : (Cond.isRef (.static C n d)).before args s = true := by
  obtain ⟨cf, kf, fi, f, a, cell, h1, h2, h3, h4, h5, h6, h7, -⟩ := h
  have he : (Term.static C n d).eval args s none [] s = some v := by
    simp [Term.eval, State.fieldNamed?, h1, h2, h4, h5, h6, h7]
  simp only [Cond.before, Cond.holds, Cond.value, he]
  cases v <;> simp_all [Value.isRef]
theorem vx_isRefq {C n d : String} {A : Nat → Prop} {s : State} {args : Array Value} (h : va_Zq C n d A s s.heap) : (Cond.isRef (.static C n d)).before args s = true := by
  rcases h with h | ⟨t, h⟩
  · exact vx_isRef h rfl
  · exact vx_isRef h rfl
/-- the same frame, seen from here: as if the method were called anew in this heap -/
theorem vx_rebase {T : State} (X : Stand p l e R s m args below meth c T locs cells slots) {R' : Room} (hf : R'.frames ≤ R.frames) (hl : R'.locals ≤ R.locals) (hc : cells + R'.cells ≤ R.cells) (hs : slots + R'.slots ≤ R.slots) :
    Stand p l e R' ((T.setVm s.vm).setFrames (.invoking m args :: below)) m args below meth c T [] 0 0 := by
  have htop : (T.setVm s.vm).topJava?.isSome := X.here.top
  have hF : ((T.setVm s.vm).setFrames (.invoking m args :: below)).frames = .invoking m args :: below := State.frames_setFrames _ (State.cur_lt_of_top htop)
  obtain ⟨g₀, hg0⟩ := Option.isSome_iff_exists.mp htop
  obtain ⟨r, hr⟩ := State.topJava?_eq_some.mp hg0
  have hl9 : e.platform.stackLimits (T.setVm s.vm).me = e.platform.stackLimits s.me := X.limits
  have hb9 : (T.setVm s.vm).me.stackBytes = s.me.stackBytes := X.bytes
  refine ⟨X.admits, X.cas, X.clock, hF, ?_, X.hears, X.method, X.code, X.here, X.tail, X.warmed, ?_, ?_, ?_⟩
  · have h := X.room
    have hU : ((T.setVm s.vm).setFrames (.invoking m args :: below)).localsInUse = s.localsInUse := by
      rw [State.localsInUse_invoking hF (meth := meth) (c := c) X.method X.code, State.localsInUse_invoking X.frames X.method X.code]
    simp only [State.hasRoom, Bool.and_eq_true, decide_eq_true_eq] at h ⊢
    obtain ⟨⟨⟨⟨h1, h2, h3, h4, h5, h6⟩, h7⟩, h8⟩, h9⟩ := h
    rw [X.frames, List.length_cons] at h2 h3
    have q1 := X.heapSize
    have q2 := X.used
    simp only [hF, hU, List.length_cons, State.stackLimits_setFrames, State.stackBytes_setFrames, hl9, hb9]
    refine ⟨⟨⟨⟨by omega, by omega, by omega, by omega, by omega, h6⟩, ?_⟩, ?_⟩, X.book⟩
    · show T.heap.size + R'.cells ≤ e.platform.maxCells
      omega
    · show T.slotsUsed + R'.slots ≤ e.platform.maxSlots
      omega
  · rw [State.stackLimits_setFrames]; rfl
  · rw [State.stackBytes_setFrames]; rfl
  · refine ⟨?_, Nat.le_refl _, Nat.le_refl _, ?_, ?_, fun a c9 h9 => ⟨c9, h9, rfl, rfl, fun _ _ => rfl⟩⟩
    · obtain ⟨t, ht, -⟩ := State.frames_cons hr
      show T.setVm s.vm = { ((T.setVm s.vm).setFrames (.invoking m args :: below)).setFrames (T.setVm s.vm).frames with heap := T.heap, slotsUsed := T.slotsUsed }
      rw [State.setFrames_setFrames, State.setFrames_self ht]
      rfl
    · show T.slotsUsed = T.slotsUsed + ((T.heap.toList.drop T.heap.size).map (·.slots.size)).sum
      rw [List.drop_eq_nil_of_le (Nat.le_of_eq Array.length_toList)]
      rfl
    · show ((T.heap.toList.drop T.heap.size).map (·.slots.size)).sum ≤ 0
      rw [List.drop_eq_nil_of_le (Nat.le_of_eq Array.length_toList)]
      exact Nat.le_refl _
/-- 'throw new E()': new; dup; invokespecial; athrow -/
theorem vx_throw0 {cc : ByteArray} {pc : Nat} (hexec : p.tables.exec = Jvm.exec) (hb : c.code = cc) (hl : l.stackTraces = false) {own cls : String} {names : List String} {ik ic mc ms : Nat} {A : Nat → Prop}
    (hown : s.vm.findClass own = some m.cls) (hcls : Bundle.fit cls = true) (hnames : ∀ n ∈ names, Bundle.fit n = true)
    (hk : (Cond.classLink own ik cls).before args s = true) (hini : (Cond.initialized cls).before args s = true) (hat : ∀ w ∈ vx_at0 own ic cls names, w.before args s = true)
    (hgood : ∀ w ∈ Cond.classLink own ik cls :: Cond.initialized cls :: vx_at0 own ic cls names, vx_ot w = true)
    (hU : vx_Zq Bundle.tN "UNASSIGNED_STACK" Bundle.steD A s s.heap) (hN : vx_Zq Bundle.tN "SUPPRESSED_SENTINEL" Bundle.listD A s s.heap) (hS : va_S A s.heap H locs) (hsize : ls.size = c.maxLocals)
    (d0 : decode cc pc = .ok (.new ik, 3)) (d3 : decode cc (pc + 3) = .ok (.dup, 1)) (d4 : decode cc (pc + 4) = .ok (.invokespecial ic, 3)) (d7 : decode cc (pc + 7) = .ok (.athrow, 1))
    (hout : ∀ x ∈ c.exceptionTable.toList, covers x (pc + 7) = false)
    (hRframes : names.length + 3 < R.frames) (hRlocals : (rest.map fun v => v.category).sum + (13 * (names.length + 1) + 42) ≤ R.locals) (hRcells : cells + 1 ≤ R.cells) (hRslots : slots + 6 ≤ R.slots) (hlocks : meth.locks = false)
    (hx : ∀ t : State, s.vm.Alike t.vm → H.size ≤ t.heap.size → (∀ q : Nat, q < H.size → t.heap[q]? = H[q]?) → XC cls s t)
    (hf : ∀ z ∈ locs, free z.base) (hc : cells + 1 ≤ mc) (hs : slots + 6 ≤ ms) :
    W p l e R s m args below meth c H locs cells slots (vx_MQ below Qc XC args s mc ms free) (F0 m pc ls rest) := by
  intro T hT X
  have htr : e.platform.stackTraces = false := (show e.platform.stackTraces = l.stackTraces by rw [X.admits.platform]).trans hl
  have Y := vx_rebase X (R' := { frames := R.frames, locals := R.locals, cells := 1, slots := 6 }) (Nat.le_refl _) (Nat.le_refl _) hRcells hRslots
  obtain ⟨s', hA⟩ : ∃ z, z = (T.setVm s.vm).setFrames (.invoking m args :: below) := ⟨_, rfl⟩
  rw [← hA] at Y
  have hvm : s'.vm = s.vm := by rw [hA]; rfl
  have hhp : s'.heap = H := by rw [hA]; exact hT
  have hW0 : s.WarmedH s'.vm := by rw [hvm]; exact State.WarmedH.refl s
  have hat' : ∀ w ∈ vx_at0 own ic cls names, w.before args s' = true := fun w hw => vx_ot_at hW0 hvm.symm (hgood w (List.mem_cons_of_mem _ (List.mem_cons_of_mem _ hw))) (hat w hw)
  have hk' : (Cond.classLink own ik cls).before args s' = true := vx_ot_at hW0 hvm.symm (hgood _ List.mem_cons_self) hk
  have hini' : (Cond.initialized cls).before args s' = true := vx_ot_at hW0 hvm.symm (hgood _ (List.mem_cons_of_mem _ List.mem_cons_self)) hini
  have hU' : vx_Zq Bundle.tN "UNASSIGNED_STACK" Bundle.steD A s' s'.heap := by rw [hhp]; exact vx_Zq.moved hW0.alike (hU.kept hS.2.1)
  have hN' : vx_Zq Bundle.tN "SUPPRESSED_SENTINEL" Bundle.listD A s' s'.heap := by rw [hhp]; exact vx_Zq.moved hW0.alike (hN.kept hS.2.1)
  have h : ∀ w ∈ Bundle.ownAtoms0 own ic cls names, w.before args s' = true := vx_own hat' (vx_isRefq hU'.1) (vx_isRefq hN'.1) hU'.2.word hN'.2.word
  have hown' : s'.vm.findClass own = some m.cls := by rw [hvm]; exact hown
  have hins : (Cond.instantiable cls 6).before args s' = true := h _ (by simp [Bundle.ownAtoms0])
  obtain ⟨vm₁, cX, kX, hfX, hkX, -, -, X₁, st1⟩ := Y.newCold hexec (own := own) (C := cls) (index := ik) (n := 6) hown' hk' hins hini'
    (g := F0 m pc ls rest) rfl (by rw [hb]; exact d0) (Nat.le_refl _) (Nat.le_refl _)
  generalize hT1 : (T.setVm vm₁).pushCell { cls := cX, slots := kX.instanceTypes.map defaultValue, vm := .none } = T1 at X₁ st1
  have hcat : (Value.ref T.heap.size).category = 1 := rfl
  have hcellA : T1.heap[T.heap.size]? = some (freshCell cX kX) := by rw [← hT1]; exact State.heap_pushCell_size _ _
  have d3' : decode c.code (pc + 3) = .ok (.dup, 1) := by rw [hb]; exact d3
  obtain ⟨U, hsteps, hrun, hend, hW, hsame, ce, hce, hO⟩ := X₁.ctorThrow0 hexec htr (own := own) (cls := cls) (names := names) (ic := ic) hown' hcls hnames h (fun x hx => nomatch hx) hfX hkX hcellA (by rw [hhp, hT]; exact Nat.le_refl _)
    (g := { method := m, pc := pc + 4, locals := ls, stack := .ref T.heap.size :: .ref T.heap.size :: rest, locked := none }) rfl hsize rfl rfl (rest := rest) rfl
    (by rw [hb]; exact d4) (by rw [hb]; exact d7) hout hRframes (by simp only [List.map_cons, List.sum_cons, hcat]; omega) hlocks
  obtain ⟨f1, f2⟩ := vx_frame hsame
  rw [hhp] at f1 f2
  have hWs : s.WarmedH U.vm := State.WarmedH.trans hW0 hW
  have hcl : s.vm.findClass cls = some ce.cls := by
    have h9 := hO.cls
    rw [hvm] at h9
    exact h9
  have hall : s.sameButNew ({ U with vm := s.vm } : State) locs mc ms := by
    subst hA
    obtain ⟨e1, e2⟩ := hsame
    rw [State.setFrames_setFrames] at e1
    have h2 : (T.setVm s.vm).sameButNew ({ U with vm := s.vm } : State) [] (0 + 1) (0 + 6) := ⟨e1, e2⟩
    have h3 := X.same.trans h2
    rw [List.append_nil] at h3
    exact h3.mono hc hs
  refine ⟨U, ?_, .threw T.heap.size, hrun, hend, Or.inr ⟨T.heap.size, rfl, cls, ce, locs, hx U hWs.alike f1 (fun q hq => f2 q hq (fun z hz => nomatch hz)), hce, hO.vm, hcl, hWs, hall, hf⟩⟩
  refine st1 _ ?_
  show Steps p.tables e below (T1.setTop { method := m, pc := pc + 3, locals := ls, stack := .ref T.heap.size :: rest, locked := none }) _
  jvm_step X₁.here [X₁.here.top, hexec, d3', Value.category]
  exact hsteps
/-- 'throw new E("text")': new; dup; ldc; invokespecial; athrow -/
theorem vx_throwS {cc : ByteArray} {pc : Nat} (hexec : p.tables.exec = Jvm.exec) (hb : c.code = cc) (hl : l.stackTraces = false) {own cls text : String} {names : List String} {ik is ic mc ms sa : Nat} {A : Nat → Prop}
    (hown : s.vm.findClass own = some m.cls) (hcls : Bundle.fit cls = true) (hnames : ∀ n ∈ names, Bundle.fit n = true)
    (hk : (Cond.classLink own ik cls).before args s = true) (hini : (Cond.initialized cls).before args s = true) (hstr : vk_R own is text sa s) (hat : ∀ w ∈ vx_atS own ic cls names, w.before args s = true)
    (hgood : ∀ w ∈ Cond.classLink own ik cls :: Cond.initialized cls :: vx_atS own ic cls names, vx_ot w = true)
    (hU : vx_Zq Bundle.tN "UNASSIGNED_STACK" Bundle.steD A s s.heap) (hN : vx_Zq Bundle.tN "SUPPRESSED_SENTINEL" Bundle.listD A s s.heap) (hS : va_S A s.heap H locs) (hsize : ls.size = c.maxLocals)
    (d0 : decode cc pc = .ok (.new ik, 3)) (d3 : decode cc (pc + 3) = .ok (.dup, 1)) (d4 : decode cc (pc + 4) = .ok (.ldc is, 2)) (d6 : decode cc (pc + 6) = .ok (.invokespecial ic, 3)) (d9 : decode cc (pc + 9) = .ok (.athrow, 1))
    (hout : ∀ x ∈ c.exceptionTable.toList, covers x (pc + 9) = false)
    (hRframes : names.length + 3 < R.frames) (hRlocals : (rest.map fun v => v.category).sum + (13 * (names.length + 1) + 43) ≤ R.locals) (hRcells : cells + 1 ≤ R.cells) (hRslots : slots + 6 ≤ R.slots) (hlocks : meth.locks = false)
    (hx : ∀ t : State, s.vm.Alike t.vm → H.size ≤ t.heap.size → (∀ q : Nat, q < H.size → t.heap[q]? = H[q]?) → XC cls s t)
    (hf : ∀ z ∈ locs, free z.base) (hc : cells + 1 ≤ mc) (hs : slots + 6 ≤ ms) :
    W p l e R s m args below meth c H locs cells slots (vx_MQ below Qc XC args s mc ms free) (F0 m pc ls rest) := by
  intro T hT X
  have htr : e.platform.stackTraces = false := (show e.platform.stackTraces = l.stackTraces by rw [X.admits.platform]).trans hl
  have Y := vx_rebase X (R' := { frames := R.frames, locals := R.locals, cells := 1, slots := 6 }) (Nat.le_refl _) (Nat.le_refl _) hRcells hRslots
  obtain ⟨s', hA⟩ : ∃ z, z = (T.setVm s.vm).setFrames (.invoking m args :: below) := ⟨_, rfl⟩
  rw [← hA] at Y
  have hvm : s'.vm = s.vm := by rw [hA]; rfl
  have hhp : s'.heap = H := by rw [hA]; exact hT
  have hW0 : s.WarmedH s'.vm := by rw [hvm]; exact State.WarmedH.refl s
  have hat' : ∀ w ∈ vx_atS own ic cls names, w.before args s' = true := fun w hw => vx_ot_at hW0 hvm.symm (hgood w (List.mem_cons_of_mem _ (List.mem_cons_of_mem _ hw))) (hat w hw)
  have hk' : (Cond.classLink own ik cls).before args s' = true := vx_ot_at hW0 hvm.symm (hgood _ List.mem_cons_self) hk
  have hini' : (Cond.initialized cls).before args s' = true := vx_ot_at hW0 hvm.symm (hgood _ (List.mem_cons_of_mem _ List.mem_cons_self)) hini
  have hU' : vx_Zq Bundle.tN "UNASSIGNED_STACK" Bundle.steD A s' s'.heap := by rw [hhp]; exact vx_Zq.moved hW0.alike (hU.kept hS.2.1)
  have hN' : vx_Zq Bundle.tN "SUPPRESSED_SENTINEL" Bundle.listD A s' s'.heap := by rw [hhp]; exact vx_Zq.moved hW0.alike (hN.kept hS.2.1)
  have h : ∀ w ∈ Bundle.ownAtoms own ic cls names, w.before args s' = true := vx_own hat' (vx_isRefq hU'.1) (vx_isRefq hN'.1) hU'.2.word hN'.2.word
  have hown' : s'.vm.findClass own = some m.cls := by rw [hvm]; exact hown
  have hins : (Cond.instantiable cls 6).before args s' = true := h _ (by simp [Bundle.ownAtoms])
  obtain ⟨vm₁, cX, kX, hfX, hkX, -, -, X₁, st1⟩ := Y.newCold hexec (own := own) (C := cls) (index := ik) (n := 6) hown' hk' hins hini'
    (g := F0 m pc ls rest) rfl (by rw [hb]; exact d0) (Nat.le_refl _) (Nat.le_refl _)
  generalize hT1 : (T.setVm vm₁).pushCell { cls := cX, slots := kX.instanceTypes.map defaultValue, vm := .none } = T1 at X₁ st1
  have hcat : (Value.ref T.heap.size).category = 1 := rfl
  have hcellA : T1.heap[T.heap.size]? = some (freshCell cX kX) := by rw [← hT1]; exact State.heap_pushCell_size _ _
  have d3' : decode c.code (pc + 3) = .ok (.dup, 1) := by rw [hb]; exact d3
  have d4' : decode c.code (pc + 4) = .ok (.ldc is, 2) := by rw [hb]; exact d4
  have hstr' : vk_R own is text sa s' := vk_R.warm hW0 hstr
  obtain ⟨U, hsteps, hrun, hend, hW, hsame, ce, hce, hO⟩ := X₁.ctorThrowS hexec htr (own := own) (cls := cls) (names := names) (ic := ic) hown' hcls hnames h (fun x hx => nomatch hx) hfX hkX hcellA (by rw [hhp, hT]; exact Nat.le_refl _) (msg := .ref sa) rfl
    (g := { method := m, pc := pc + 6, locals := ls, stack := .ref sa :: .ref T.heap.size :: .ref T.heap.size :: rest, locked := none }) rfl hsize rfl rfl (rest := rest) rfl
    (by rw [hb]; exact d6) (by rw [hb]; exact d9) hout hRframes (by simp only [List.map_cons, List.sum_cons, hcat]; omega) hlocks
  obtain ⟨f1, f2⟩ := vx_frame hsame
  rw [hhp] at f1 f2
  have hWs : s.WarmedH U.vm := State.WarmedH.trans hW0 hW
  have hcl : s.vm.findClass cls = some ce.cls := by
    have h9 := hO.cls
    rw [hvm] at h9
    exact h9
  have hall : s.sameButNew ({ U with vm := s.vm } : State) locs mc ms := by
    subst hA
    obtain ⟨e1, e2⟩ := hsame
    rw [State.setFrames_setFrames] at e1
    have h2 : (T.setVm s.vm).sameButNew ({ U with vm := s.vm } : State) [] (0 + 1) (0 + 6) := ⟨e1, e2⟩
    have h3 := X.same.trans h2
    rw [List.append_nil] at h3
    exact h3.mono hc hs
  refine ⟨U, ?_, .threw T.heap.size, hrun, hend, Or.inr ⟨T.heap.size, rfl, cls, ce, locs, hx U hWs.alike f1 (fun q hq => f2 q hq (fun z hz => nomatch hz)), hce, hO.vm, hcl, hWs, hall, hf⟩⟩
  refine st1 _ ?_
  show Steps p.tables e below (T1.setTop { method := m, pc := pc + 3, locals := ls, stack := .ref T.heap.size :: rest, locked := none }) _
  jvm_step X₁.here [X₁.here.top, hexec, d3', Value.category]
  exact X₁.ldcString hexec (own := own) (text := text) (index := is) (a := sa) hown' hstr'.1 hstr'.2
    (g := { method := m, pc := pc + 4, locals := ls, stack := .ref T.heap.size :: .ref T.heap.size :: rest, locked := none }) rfl d4' _ hsteps
/-- 'throw new E("text")', the text by a wide index -/
theorem vx_throwSW {cc : ByteArray} {pc : Nat} (hexec : p.tables.exec = Jvm.exec) (hb : c.code = cc) (hl : l.stackTraces = false) {own cls text : String} {names : List String} {ik is ic mc ms sa : Nat} {A : Nat → Prop}
    (hown : s.vm.findClass own = some m.cls) (hcls : Bundle.fit cls = true) (hnames : ∀ n ∈ names, Bundle.fit n = true)
    (hk : (Cond.classLink own ik cls).before args s = true) (hini : (Cond.initialized cls).before args s = true) (hstr : vk_R own is text sa s) (hat : ∀ w ∈ vx_atS own ic cls names, w.before args s = true)
    (hgood : ∀ w ∈ Cond.classLink own ik cls :: Cond.initialized cls :: vx_atS own ic cls names, vx_ot w = true)
    (hU : vx_Zq Bundle.tN "UNASSIGNED_STACK" Bundle.steD A s s.heap) (hN : vx_Zq Bundle.tN "SUPPRESSED_SENTINEL" Bundle.listD A s s.heap) (hS : va_S A s.heap H locs) (hsize : ls.size = c.maxLocals)
    (d0 : decode cc pc = .ok (.new ik, 3)) (d3 : decode cc (pc + 3) = .ok (.dup, 1)) (d4 : decode cc (pc + 4) = .ok (.ldc_w is, 3)) (d7 : decode cc (pc + 7) = .ok (.invokespecial ic, 3)) (d10 : decode cc (pc + 10) = .ok (.athrow, 1))
    (hout : ∀ x ∈ c.exceptionTable.toList, covers x (pc + 10) = false)
    (hRframes : names.length + 3 < R.frames) (hRlocals : (rest.map fun v => v.category).sum + (13 * (names.length + 1) + 43) ≤ R.locals) (hRcells : cells + 1 ≤ R.cells) (hRslots : slots + 6 ≤ R.slots) (hlocks : meth.locks = false)
    (hx : ∀ t : State, s.vm.Alike t.vm → H.size ≤ t.heap.size → (∀ q : Nat, q < H.size → t.heap[q]? = H[q]?) → XC cls s t)
    (hf : ∀ z ∈ locs, free z.base) (hc : cells + 1 ≤ mc) (hs : slots + 6 ≤ ms) :
    W p l e R s m args below meth c H locs cells slots (vx_MQ below Qc XC args s mc ms free) (F0 m pc ls rest) := by
  intro T hT X
  have htr : e.platform.stackTraces = false := (show e.platform.stackTraces = l.stackTraces by rw [X.admits.platform]).trans hl
  have Y := vx_rebase X (R' := { frames := R.frames, locals := R.locals, cells := 1, slots := 6 }) (Nat.le_refl _) (Nat.le_refl _) hRcells hRslots
  obtain ⟨s', hA⟩ : ∃ z, z = (T.setVm s.vm).setFrames (.invoking m args :: below) := ⟨_, rfl⟩
  rw [← hA] at Y
  have hvm : s'.vm = s.vm := by rw [hA]; rfl
  have hhp : s'.heap = H := by rw [hA]; exact hT
  have hW0 : s.WarmedH s'.vm := by rw [hvm]; exact State.WarmedH.refl s
  have hat' : ∀ w ∈ vx_atS own ic cls names, w.before args s' = true := fun w hw => vx_ot_at hW0 hvm.symm (hgood w (List.mem_cons_of_mem _ (List.mem_cons_of_mem _ hw))) (hat w hw)
  have hk' : (Cond.classLink own ik cls).before args s' = true := vx_ot_at hW0 hvm.symm (hgood _ List.mem_cons_self) hk
  have hini' : (Cond.initialized cls).before args s' = true := vx_ot_at hW0 hvm.symm (hgood _ (List.mem_cons_of_mem _ List.mem_cons_self)) hini
  have hU' : vx_Zq Bundle.tN "UNASSIGNED_STACK" Bundle.steD A s' s'.heap := by rw [hhp]; exact vx_Zq.moved hW0.alike (hU.kept hS.2.1)
  have hN' : vx_Zq Bundle.tN "SUPPRESSED_SENTINEL" Bundle.listD A s' s'.heap := by rw [hhp]; exact vx_Zq.moved hW0.alike (hN.kept hS.2.1)
  have h : ∀ w ∈ Bundle.ownAtoms own ic cls names, w.before args s' = true := vx_own hat' (vx_isRefq hU'.1) (vx_isRefq hN'.1) hU'.2.word hN'.2.word
  have hown' : s'.vm.findClass own = some m.cls := by rw [hvm]; exact hown
  have hins : (Cond.instantiable cls 6).before args s' = true := h _ (by simp [Bundle.ownAtoms])
  obtain ⟨vm₁, cX, kX, hfX, hkX, -, -, X₁, st1⟩ := Y.newCold hexec (own := own) (C := cls) (index := ik) (n := 6) hown' hk' hins hini'
    (g := F0 m pc ls rest) rfl (by rw [hb]; exact d0) (Nat.le_refl _) (Nat.le_refl _)
  generalize hT1 : (T.setVm vm₁).pushCell { cls := cX, slots := kX.instanceTypes.map defaultValue, vm := .none } = T1 at X₁ st1
  have hcat : (Value.ref T.heap.size).category = 1 := rfl
  have hcellA : T1.heap[T.heap.size]? = some (freshCell cX kX) := by rw [← hT1]; exact State.heap_pushCell_size _ _
  have d3' : decode c.code (pc + 3) = .ok (.dup, 1) := by rw [hb]; exact d3
  have d4' : decode c.code (pc + 4) = .ok (.ldc_w is, 3) := by rw [hb]; exact d4
  have hstr' : vk_R own is text sa s' := vk_R.warm hW0 hstr
  obtain ⟨U, hsteps, hrun, hend, hW, hsame, ce, hce, hO⟩ := X₁.ctorThrowS hexec htr (own := own) (cls := cls) (names := names) (ic := ic) hown' hcls hnames h (fun x hx => nomatch hx) hfX hkX hcellA (by rw [hhp, hT]; exact Nat.le_refl _) (msg := .ref sa) rfl
    (g := { method := m, pc := pc + 7, locals := ls, stack := .ref sa :: .ref T.heap.size :: .ref T.heap.size :: rest, locked := none }) rfl hsize rfl rfl (rest := rest) rfl
    (by rw [hb]; exact d7) (by rw [hb]; exact d10) hout hRframes (by simp only [List.map_cons, List.sum_cons, hcat]; omega) hlocks
  obtain ⟨f1, f2⟩ := vx_frame hsame
  rw [hhp] at f1 f2
  have hWs : s.WarmedH U.vm := State.WarmedH.trans hW0 hW
  have hcl : s.vm.findClass cls = some ce.cls := by
    have h9 := hO.cls
    rw [hvm] at h9
    exact h9
  have hall : s.sameButNew ({ U with vm := s.vm } : State) locs mc ms := by
    subst hA
    obtain ⟨e1, e2⟩ := hsame
    rw [State.setFrames_setFrames] at e1
    have h2 : (T.setVm s.vm).sameButNew ({ U with vm := s.vm } : State) [] (0 + 1) (0 + 6) := ⟨e1, e2⟩
    have h3 := X.same.trans h2
    rw [List.append_nil] at h3
    exact h3.mono hc hs
  refine ⟨U, ?_, .threw T.heap.size, hrun, hend, Or.inr ⟨T.heap.size, rfl, cls, ce, locs, hx U hWs.alike f1 (fun q hq => f2 q hq (fun z hz => nomatch hz)), hce, hO.vm, hcl, hWs, hall, hf⟩⟩
  refine st1 _ ?_
  show Steps p.tables e below (T1.setTop { method := m, pc := pc + 3, locals := ls, stack := .ref T.heap.size :: rest, locked := none }) _
  jvm_step X₁.here [X₁.here.top, hexec, d3', Value.category]
  exact X₁.ldcStringW hexec (own := own) (text := text) (index := is) (a := sa) hown' hstr'.1 hstr'.2
    (g := { method := m, pc := pc + 4, locals := ls, stack := .ref T.heap.size :: .ref T.heap.size :: rest, locked := none }) rfl d4' _ hsteps
end Ends
section Bodies
variable {l : Launch}
theorem vx_ofW {y : MethodName} {ws ws' : List Cond} {rm : Room} {Pc : Array Value → State → Prop} {Qc : Array Value → State → Outcome → State → Prop} {XC : String → State → State → Prop} {mc ms : Nat} {free : Addr → Prop} {cc : ByteArray} {maxL : Nat} {ret : Option FieldType}
    (hy : plainName y.cls = true) (hw : ws = Cond.code y cc maxL ret :: ws')
    (body : ∀ p e s m args below meth c s₁, BodyLoose p l y (headSpec ws rm) cc maxL ret e s m args below meth c s₁ → c.maxLocals = maxL → (∀ x ∈ c.exceptionTable.toList, False) → Pc args s →
      W p l e (headSpec ws rm).room s m args below meth c s.heap [] 0 0 (vx_MQ below Qc XC args s mc ms free) (entryFrame m args maxL)) : vx_Met l y ws rm Pc Qc XC mc ms free := by
  refine MetFree.of_bodyS (code := cc) (maxLocals := maxL) (ret := ret) hy ?_ ?_
  · intro args s m h hn
    obtain ⟨meth, c, h1, h2, h3, h4, h5, h6, -, -⟩ := Cond.code_spec hn (atoms_spec (ws := ws) h _ (by rw [hw]; exact List.mem_cons_self))
    exact ⟨meth, c, h1, h2, h3, h4, h5, h6⟩
  · intro p e s m args below meth c s₁ B hml hP _
    have hh0 : s₁.heap = s.heap := by rw [B.state]; rfl
    have ht : ∀ x ∈ c.exceptionTable.toList, False := by
      obtain ⟨meth9, c9, h1, h2, -, -, -, -, h7, -⟩ := Cond.code_spec B.named (atoms_spec (ws := ws) B.pre _ (by rw [hw]; exact List.mem_cons_self))
      cases Option.some.inj (h1.symm.trans B.method)
      cases Option.some.inj (h2.symm.trans (Stand.of_body B).code)
      intro x hx
      rw [Array.isEmpty_iff.mp h7] at hx
      cases hx
    obtain ⟨t, a1, o, b1, b2, b3⟩ := body p e s m args below meth c s₁ B hml ht hP s₁ hh0 (Stand.of_body B)
    exact ⟨t, o, a1, b1, b2, b3⟩
/-- the table of a body with handlers -/
theorem vx_table {p : Program} {x y : MethodName} {S : Spec} {cc bytes : ByteArray} {maxL maxL' : Nat} {ret ret' : Option FieldType} {e : Env} {s s₁ : State} {m : MethodId} {args : Array Value} {below : List Frame} {meth : Method} {c : Code} {hh : List (Nat × Nat × Nat × Nat)}
    (B : BodyLoose p l y S cc maxL ret e s m args below meth c s₁) (h : (Cond.codeWith y bytes maxL' ret' hh).before args s = true) : c.exceptionTable.toList = tableOf hh := by
  obtain ⟨m9, meth9, c9, hn9, h1, h2, -, -, h6, -⟩ := Cond.codeWith_spec h
  cases Option.some.inj (hn9.symm.trans B.named)
  cases Option.some.inj (h1.symm.trans B.method)
  cases Option.some.inj (h2.symm.trans (Stand.of_body B).code)
  rw [← h6, table_eq]
end Bodies
end VXA
/-! ===== END ===== -/
/-! ===== BEGIN a static call of a method with an exception table ===== -/
section VXS
variable {p : Program} {l : Launch} {e : Env} {R : Room} {s : State} {m : MethodId} {args : Array Value} {below : List Frame} {meth : Method} {c : Code} {T : State} {H : Heap} {locs : List Loc} {cells slots : Nat}
abbrev vx_CSW (R : Room) (s : State) (args : Array Value) (own : String) (index : Nat) (y : MethodName) (bytes : ByteArray) (maxL : Nat) (ret : Option FieldType) (hh : List (Nat × Nat × Nat × Nat)) (ws : List Cond) (rm : Room) (mc ms n : Nat) : Prop :=
  (rm.cells = mc ∧ rm.slots = ms ∧ rm.frames + 1 ≤ R.frames ∧ 8 + (maxL + 11) + rm.locals ≤ R.locals ∧ (∀ w ∈ ws, ∀ (a' : Array Value) (U : State), s.WarmedH U.vm → w.before a' U = true) ∧ Cond.codeWith y bytes maxL ret hh ∈ ws) ∧
  (Cond.codeWith y bytes maxL ret hh).before args s = true ∧ (Cond.initialized y.cls).before args s = true ∧ (y.cls ≠ "java/lang/invoke/MethodHandle" ∧ y.cls ≠ "java/lang/invoke/VarHandle") ∧
  (∀ sig, parseMethodDescriptor y.desc = some sig → n = sig.parameters.length) ∧ (Cond.methodLink own index y).before args s = true ∧ (Cond.static y).before args s = true
theorem vx_cwSW {own : String} {index maxL mc ms : Nat} {y : MethodName} {bytes : ByteArray} {ret : Option FieldType} {hh : List (Nat × Nat × Nat × Nat)} {Ts ws ws' : List Cond} {rm : Room} (n : Nat) (ht : ∀ w ∈ Ts, w.before args s = true) (hT : GoodIn Ts (va_wsS own index y ws)) (hw : ws = Cond.codeWith y bytes maxL ret hh :: ws') (hrc : rm.cells = mc) (hrs : rm.slots = ms)
    (hd : y.cls ≠ "java/lang/invoke/MethodHandle" ∧ y.cls ≠ "java/lang/invoke/VarHandle" ∧ (parseMethodDescriptor y.desc).map (fun d => d.parameters.length) = some n) (hR : rm.frames + 1 ≤ R.frames ∧ 8 + (maxL + 11) + rm.locals ≤ R.locals) :
    vx_CSW R s args own index y bytes maxL ret hh ws rm mc ms n := by
  have ok : ∀ w ∈ va_wsS own index y ws, w.before args s = true := fun w h => ht w (hT w h).1
  have hG : GoodIn Ts ws := fun w h => hT w (by unfold va_wsS; exact List.mem_append_right _ h)
  have hc : Cond.codeWith y bytes maxL ret hh ∈ ws := by rw [hw]; exact List.mem_cons_self
  refine ⟨⟨hrc, hrs, hR.1, hR.2, pay_in ht hG, hc⟩, ht _ (hG _ hc).1, ok _ (by simp [va_wsS]), ⟨hd.1, hd.2.1⟩, fun sig h => ?_, ok _ (by simp [va_wsS]), ok _ (by simp [va_wsS])⟩
  have h2 := hd.2.2
  rw [h] at h2
  exact (Option.some.inj h2).symm
theorem vx_callSW (X : Stand p l e R s m args below meth c T locs cells slots) (hexec : p.tables.exec = Jvm.exec) {own : String} {index : Nat} {y : MethodName} {bytes : ByteArray} {maxL : Nat} {ret : Option FieldType} {hh : List (Nat × Nat × Nat × Nat)}
    (hown : s.vm.findClass own = some m.cls) (hlink : (Cond.methodLink own index y).before args s = true) (hstat : (Cond.static y).before args s = true) (hinit : (Cond.initialized y.cls).before args s = true)
    (hcode : (Cond.codeWith y bytes maxL ret hh).before args s = true) (hy : y.cls ≠ "java/lang/invoke/MethodHandle" ∧ y.cls ≠ "java/lang/invoke/VarHandle")
    {W9 : Nat} {Pre : Pt → Array Value → Prop} {Post : Pt → Array Value → Option Value → Pt → Prop} (hK : Back l R p e below s args y 3 W9 Pre Post)
    {g : JFrame} (hg : g.method = m) (hsize : g.locals.size = c.maxLocals) {argsL rest : List Value} (hlen : ∀ sig, parseMethodDescriptor y.desc = some sig → argsL.length = sig.parameters.length)
    (hstack : g.stack = argsL.reverse ++ rest) (hW : 2 * g.monitorRoom + (rest.map fun v => v.category).sum ≤ W9) (hdg : decode c.code g.pc = .ok (.invokestatic index, 3))
    (hpre : ∀ vm₁, s.WarmedH vm₁ → Pre ⟨T.setVm vm₁, locs, cells, slots⟩ argsL.toArray) :
    ∃ (v : Option Value) (vm₁ : Vm) (B : Pt), s.WarmedH vm₁ ∧ Stand p l e R s m args below meth c B.U B.locs B.cells B.slots ∧ Post ⟨T.setVm vm₁, locs, cells, slots⟩ argsL.toArray v B ∧
      ∀ target, Steps p.tables e below (B.U.setTop { g with pc := g.pc + 3, stack := v.toList ++ rest }) target → Steps p.tables e below (T.setTop g) target := by
  obtain ⟨mk, methM, cM, hnamed, hmethM, -, -, -, -, -, -, hsigM⟩ := Cond.codeWith_spec hcode
  have hstatic : methM.isStatic = true := Cond.static_spec hnamed hmethM hstat
  obtain ⟨kP, hkP, -⟩ := className_of_methodNamed hnamed
  have hinitP : kP.init = .initialized := Cond.initialized_spec (findClass_of_methodNamed hnamed) hkP hinit
  obtain ⟨vm₁, X₁, hstep₁⟩ := X.invokestatic hexec hown hlink hnamed hmethM hstatic hkP hinitP hy (g := g) hg (argsL := argsL) (rest := rest) (hlen _ hsigM) hstack hdg
  obtain ⟨v, B, X', hpost, hsteps⟩ := hK m meth c ⟨T.setVm vm₁, locs, cells, slots⟩ { g with stack := rest } (.invokestatic index) mk argsL.toArray X₁ hg hsize hdg hW (X₁.named hnamed) (hpre vm₁ X₁.warmed)
  exact ⟨v, vm₁, B, X₁.warmed, X', hpost, fun target h => hstep₁ _ fun acts => by rw [doInvoke_state]; exact hsteps.trans h⟩
theorem vx_runSW {y : MethodName} {bytes cc : ByteArray} {maxL nL mc ms n index : Nat} {ret : Option FieldType} {hh : List (Nat × Nat × Nat × Nat)} {ws : List Cond} {rm : Room} {Pc : Array Value → State → Prop} {Qc : Array Value → State → Outcome → State → Prop} {free : Addr → Prop} {Ts : List Cond} {own : String} {As rest : List Value} {g : JFrame}
    (S : CallFix p m c cc nL s args Ts own) (hM : Met l y ws rm Pc Qc mc ms free) (cw : vx_CSW R s args own index y bytes maxL ret hh ws rm mc ms n) (hp : PreS s H Pc As)
    (hg : g.method = m) (hn : As.length = n) (hsize : g.locals.size = nL) (hstack : g.stack = As.reverse ++ rest) (hW : 2 * g.monitorRoom + (rest.map fun v => v.category).sum ≤ 8) (hdg : decode cc g.pc = .ok (.invokestatic index, 3)) (hf : cells + mc ≤ R.cells ∧ slots + ms ≤ R.slots) :
    va_Run p l e R s m args below meth c H locs cells slots mc ms g rest (Qc As.toArray) (free) := by
  obtain ⟨⟨hrc, hrs, hfr, hlo, hws, hcw⟩, hcode, hini, hy, hlen, hl, hstt⟩ := cw
  have hK : Back l R p e below s args y 3 8 (PreOf R mc ms Pc) (PostOf Qc mc ms free) := va_backW (hh := hh) (bytes := bytes) (maxL := maxL) (ret := ret) hM hp.1 hrc hrs hfr hlo hws hcw (fun a' U hW => word_at hW (Or.inl (by first | rfl | simp [Cond.onTables, Cond.keeps, Cond.steady])) hini)
  obtain ⟨hx, hb, hml, ho, -⟩ := S
  intro T hT X
  obtain ⟨v, vm₁, ⟨U', l2, c2, s2⟩, hW₁, X', ⟨g', mk, t, L, e1, e2, hq, h1, hL, h2, h3⟩, st⟩ := vx_callSW X hx (hh := hh) (bytes := bytes) (maxL := maxL) (ret := ret) ho hl hstt hini hcode hy hK hg (hsize.trans hml.symm) (argsL := As) (rest := rest) (fun sig h => hn.trans (hlen sig h)) hstack hW (by rw [hb]; exact hdg)
    (fun vm₁ hW₁ => ⟨hf.1, hf.2, hp.2 (T.setVm vm₁) hT hW₁⟩)
  dsimp only [Pt.U, Pt.locs, Pt.cells, Pt.slots] at X' e1 e2 h1 h2 h3 st
  subst h1; subst h2; subst h3
  exact ⟨v, (T.setVm vm₁).calling g' mk As.toArray, t, U', L, hT, X', hL, e1, e2, hq, st⟩
/-- not caught here, past rows that name other classes: it goes on to the caller -/
theorem vx_outP {p : Program} {l : Launch} {e : Env} {R : Room} {s : State} {m : MethodId} {args : Array Value} {below : List Frame} {meth : Method} {c : Code} {H : Heap} {locs : List Loc} {cells slots : Nat} {free : Addr → Prop} {ls : Array Slot} {rest : List Value} {Qc : Array Value → State → Outcome → State → Prop} {XC : String → State → State → Prop}
    {pc : Nat} {own E : String} {ce : Cell} {q : Addr} {mc ms : Nat} (hown : s.vm.findClass own = some m.cls) (hlocks : meth.locks = false)
    (hpass : ∀ z ∈ c.exceptionTable.toList, covers z pc = false ∨ (z.catchType ≠ 0 ∧ ∃ nm : String, (Cond.classLink own z.catchType nm).before args s = true ∧ va_Nc E nm s)) (hcell : H[q]? = some ce) (hv : ce.vm = .none) (hcl : s.vm.findClass E = some ce.cls)
    (hx : ∀ t : State, t.heap = H → s.vm.Alike t.vm → XC E s t) (hf : ∀ z ∈ locs, free z.base) (hc : cells ≤ mc) (hs : slots ≤ ms) :
    vx_W p l e R s m args below meth c H locs cells slots (vx_MQ below Qc XC args s mc ms free) (F0 m pc ls rest) q := by
  intro T hT X
  have hpl : e.platform.magicAccessors = ({} : Platform).magicAccessors := by rw [X.admits.platform]
  obtain ⟨vm', hW', X', st⟩ := X.outThrough hlocks q (g := F0 m pc ls rest) rfl rfl rfl (cell := ce) (by rw [hT]; exact hcell) (by rw [hv]; rfl)
    (by obtain ⟨k9, h9, -⟩ := Vm.findClass_spec hcl; exact ⟨k9, h9⟩) (fun z hz => by
      rcases hpass z hz with h | ⟨hz0, nm, hl1, hn1⟩
      · exact Or.inl h
      · obtain ⟨c6, hc6, hcl6⟩ := Cond.classLink_spec hown hl1 e.platform hpl
        obtain ⟨a8, b8, h1, h2, h3⟩ := hn1
        cases Option.some.inj (h1.symm.trans hcl)
        cases Option.some.inj (h2.symm.trans hc6)
        exact Or.inr ⟨hz0, _, hcl6, h3⟩)
  obtain ⟨g₀, hfr⟩ := X'.frames_eq
  have hcell9 : ((T.setVm vm').setFrames (.throwing q :: below)).heap[q]? = some ce := by
    show T.heap[q]? = some ce
    rw [hT]; exact hcell
  have hend : Ended ((T.setVm vm').setFrames (.throwing q :: below)) below (.threw q) := State.frames_setFrames _ (State.cur_lt_of_frames hfr)
  refine ⟨(T.setVm vm').setFrames (.throwing q :: below), ?_, .threw q, X'.here.running, hend, Or.inr ⟨q, rfl, E, ce, locs, hx _ hT (X'.ends _).1.alike, hcell9, hv, hcl, (X'.ends _).1, (X'.ends _).2.mono hc hs, hf⟩⟩
  rw [X.pushThrowing_eq]
  exact st
/-- a thing of a world lies in the heap -/
theorem vx_lt {D : va_G} {cl : List vw_C} {ws : va_W} {H1 : Heap} (h : va_P D cl ws H1) {k : Nat} {q : Nat × va_E} (hk : ws[k]? = some q) : q.1 < H1.size := (h k q hk).lt
end VXS
/-! ===== END ===== -/
/-! ===== BEGIN methods with a table of their own: called by a name, returning or throwing ===== -/
section VXH
/-! vx_backW, vx_callVX, vx_callSX, vx_callVW, vx_runVW, vx_runVX, vx_runSX, vx_ofWH follow the same proofs as their sisters above (Free/Laws.lean, Shelf42/LK1.lean); vx_outP calls Shelf42/NT130.lean (outThrough). -/
section
variable {l : Launch} {R : Room} {p : Program} {e : Env} {below : List Frame} {s : State} {sargs : Array Value} {y : MethodName} {len W9 : Nat}
theorem vx_backW {ws : List Cond} {rm : Room} {Pc : Array Value → State → Prop} {Qc : Array Value → State → Outcome → State → Prop} {XC : String → State → State → Prop} {mc ms : Nat} {free : Addr → Prop} {bytes : ByteArray} {maxL : Nat} {ret : Option FieldType} {hh : List (Nat × Nat × Nat × Nat)}
    (hM : vx_Met l y ws rm Pc Qc XC mc ms free) (hblind : FrameBlind Pc) (hrc : rm.cells = mc) (hrs : rm.slots = ms)
    (hframes : rm.frames + 1 ≤ R.frames) (hlocals : W9 + (maxL + 11) + rm.locals ≤ R.locals)
    (hws : ∀ w ∈ ws, ∀ a' U, s.WarmedH U.vm → w.before a' U = true) (hcode : Cond.codeWith y bytes maxL ret hh ∈ ws) (hinit : ∀ a' U, s.WarmedH U.vm → (Cond.initialized y.cls).before a' U = true) :
    vx_Back l R p e below s sargs y len W9 (PreOf R mc ms Pc) (PostOf Qc mc ms free) (vx_Post XC mc ms free) := by
  intro m meth c A g ig mk a X hg hsize hdg hW hn hp
  have h1 : (headSpec ws rm).pre.before a A.U = true := atoms_intro fun w hw => hws w hw _ _ X.warmed
  have h2 : (Cond.codeWith y bytes maxL ret hh).before a A.U = true := hws _ hcode _ _ X.warmed
  have h3 : (Cond.initialized y.cls).before a A.U = true := hinit _ _ X.warmed
  have h4 : A.cells + (headSpec ws rm).room.cells ≤ R.cells := by rw [show (headSpec ws rm).room.cells = mc from hrc]; exact hp.1
  have h5 : A.slots + (headSpec ws rm).room.slots ≤ R.slots := by rw [show (headSpec ws rm).room.slots = ms from hrs]; exact hp.2.1
  have hPc : Pc a (A.U.calling g mk a) := hblind _ _ _ _ hp.2.2
  obtain ⟨U, Ls, c0, s0⟩ := A
  dsimp only [Pt.U, Pt.locs, Pt.cells, Pt.slots] at h1 h2 h3 h4 h5 X hn hPc ⊢
  obtain ⟨m9, methY, cY, hn9, hmY, hcY, -, hlY, -⟩ := Cond.codeWith_spec h2
  cases Option.some.inj (hn9.symm.trans hn)
  obtain ⟨kY, hkY, -⟩ := className_of_methodNamed hn
  have hinitY : kY.init = .initialized := Cond.initialized_spec (findClass_of_methodNamed hn) hkY h3
  have h : At U g.method c below := by rw [hg]; exact X.here
  have hlocals9 : W9 + (maxL + 11) + (headSpec ws rm).room.locals ≤ R.locals := hlocals
  have happ : (headSpec ws rm).appliesLoose y e.platform (U.calling g mk a) = true :=
    Spec.appliesLoose_calling (g := g) h hdg hn hkY hinitY
      (X.room_calling (g := g) (R' := (headSpec ws rm).room) hsize hmY hcY hframes (by rw [hlY]; omega) h4 h5) h1
  obtain ⟨mid, hmid⟩ := h.above
  have hfr : (U.setTop g).frames = (.java g :: mid) ++ below := by rw [State.frames_setTop' g h.top, hmid]; rfl
  obtain ⟨o, s₂, hsteps, -, hend, hq⟩ := Steps.callFree hM p X.admits X.cas X.clock (acts := []) hfr happ hPc trivial
  have hq' : vx_Q Qc XC mc ms free a (U.calling g mk a) o s₂ := hq
  rw [State.frames_setTop' g h.top] at hend
  obtain ⟨g₀, hg0⟩ := Option.isSome_iff_exists.mp h.top
  obtain ⟨r, hr⟩ := State.topJava?_eq_some.mp hg0
  have hr' : (({ U with heap := s₂.heap, slotsUsed := s₂.slotsUsed } : State).setVm s₂.vm).frames = .java g₀ :: r := hr
  rcases hq' with ⟨hqc, L, hfe, hL⟩ | ⟨q, rfl, E, ce, L, hx, hce, hcv, hcl, hW₂, hsm, hL⟩
  · obtain ⟨⟨v, rfl⟩, hW₂, e2, q2, q3, q4, q5, q6⟩ := id hfe
    have e3 : s₂ = ({ (U.calling g mk a).setFrames s₂.frames with heap := s₂.heap, slotsUsed := s₂.slotsUsed } : State).setVm s₂.vm := by
      have : s₂ = ({ s₂ with vm := (U.calling g mk a).vm } : State).setVm s₂.vm := rfl
      rw [e2] at this
      exact this
    obtain ⟨c₂, i₂, len₂, hc₂, hd₂, hf₂⟩ := hend
    have hW' : U.WarmedH s₂.vm := hW₂
    have hcc : c₂ = c := by
      have h1 : s₂.code? g.method = U.code? g.method := by
        rw [State.code?_eq, State.code?_eq, hW'.alike.method?]
      exact Option.some.inj (hc₂.symm.trans (h1.trans h.code))
    subst hcc
    have hlen : len₂ = len := by rw [hdg] at hd₂; cases hd₂; rfl
    subst hlen
    have hs₂ : s₂ = (({ U with heap := s₂.heap, slotsUsed := s₂.slotsUsed } : State).setVm s₂.vm).setTop { g with pc := g.pc + len₂, stack := v.toList ++ g.stack } := by
      refine e3.trans ?_
      rw [hf₂, State.calling_eq h.top, State.setFrames_setFrames, State.setTop_of_frames _ hr', hr]
      rfl
    have hsame : U.sameButNew ({ U with heap := s₂.heap, slotsUsed := s₂.slotsUsed } : State) L mc ms := by
      refine ⟨?_, q2, q3, q4, q5, q6⟩
      obtain ⟨t, ht, -⟩ := State.frames_cons hr
      show ({ U with heap := s₂.heap, slotsUsed := s₂.slotsUsed } : State) = { U.setFrames U.frames with heap := s₂.heap, slotsUsed := s₂.slotsUsed }
      rw [State.setFrames_self ht]
    subst hg
    refine Or.inl ⟨v, ⟨(({ U with heap := s₂.heap, slotsUsed := s₂.slotsUsed } : State).setVm s₂.vm), Ls ++ L, c0 + mc, s0 + ms⟩,
      ⟨X.admits, X.cas, X.clock, X.frames, X.room, X.hears, X.method, X.code, (X.here.setHeapUsed s₂.heap s₂.slotsUsed).setVm hW'.alike, X.tail, State.WarmedH.trans X.warmed hW', X.limits, X.bytes, X.same.trans (hsame.setVm s.vm)⟩,
      ⟨g, mk, s₂, L, rfl, rfl, hqc, rfl, hL, rfl, rfl⟩, ?_⟩
    show Steps p.tables e below _ ((({ U with heap := s₂.heap, slotsUsed := s₂.slotsUsed } : State).setVm s₂.vm).setTop { g with pc := g.pc + len₂, stack := v.toList ++ g.stack })
    rw [← hs₂]
    exact hsteps
  · obtain ⟨e2, q2, q3, q4, q5, q6⟩ := id hsm
    have e3 : s₂ = ({ (U.calling g mk a).setFrames s₂.frames with heap := s₂.heap, slotsUsed := s₂.slotsUsed } : State).setVm s₂.vm := by
      have : s₂ = ({ s₂ with vm := (U.calling g mk a).vm } : State).setVm s₂.vm := rfl
      rw [e2] at this
      exact this
    have hf₂ : s₂.frames = .throwing q :: .java g :: U.frames.tail := hend
    have hW' : U.WarmedH s₂.vm := hW₂
    have hs₂ : s₂ = ((({ U with heap := s₂.heap, slotsUsed := s₂.slotsUsed } : State).setVm s₂.vm).setTop g).pushFrame (.throwing q) := by
      refine e3.trans ?_
      rw [hf₂, State.calling_eq h.top, State.setFrames_setFrames, State.pushFrame, State.frames_setTop _ hr', State.setTop_of_frames _ hr', State.setFrames_setFrames, hr]
      rfl
    have hsame : U.sameButNew ({ U with heap := s₂.heap, slotsUsed := s₂.slotsUsed } : State) L mc ms := by
      refine ⟨?_, q2, q3, q4, q5, q6⟩
      obtain ⟨t, ht, -⟩ := State.frames_cons hr
      show ({ U with heap := s₂.heap, slotsUsed := s₂.slotsUsed } : State) = { U.setFrames U.frames with heap := s₂.heap, slotsUsed := s₂.slotsUsed }
      rw [State.setFrames_self ht]
    subst hg
    refine Or.inr ⟨q, ⟨(({ U with heap := s₂.heap, slotsUsed := s₂.slotsUsed } : State).setVm s₂.vm), Ls ++ L, c0 + mc, s0 + ms⟩,
      ⟨X.admits, X.cas, X.clock, X.frames, X.room, X.hears, X.method, X.code, (X.here.setHeapUsed s₂.heap s₂.slotsUsed).setVm hW'.alike, X.tail, State.WarmedH.trans X.warmed hW', X.limits, X.bytes, X.same.trans (hsame.setVm s.vm)⟩,
      ⟨g, mk, s₂, L, E, ce, rfl, rfl, hx, hce, hcv, hcl, rfl, hL, rfl, rfl⟩, ?_⟩
    show Steps p.tables e below _ (((({ U with heap := s₂.heap, slotsUsed := s₂.slotsUsed } : State).setVm s₂.vm).setTop g).pushFrame (.throwing q))
    rw [← hs₂]
    exact hsteps
end
variable {p : Program} {l : Launch} {e : Env} {R : Room} {s : State} {m : MethodId} {args : Array Value} {below : List Frame} {meth : Method} {c : Code} {T : State} {H : Heap} {locs : List Loc} {cells slots : Nat}
theorem vx_callVX (X : Stand p l e R s m args below meth c T locs cells slots) (hexec : p.tables.exec = Jvm.exec) {own C : String} {index : Nat} {y : MethodName} {bytes : ByteArray} {maxL : Nat} {ret : Option FieldType} {hh : List (Nat × Nat × Nat × Nat)}
    (hown : s.vm.findClass own = some m.cls) (hlink : (Cond.methodLink own index y).before args s = true) (hinst : (Cond.instanceMethod y).before args s = true) (hsel : (Cond.selects C y y).before args s = true)
    (hcode : (Cond.codeWith y bytes maxL ret hh).before args s = true) (hy : y.cls ≠ "java/lang/invoke/MethodHandle" ∧ y.cls ≠ "java/lang/invoke/VarHandle")
    {W9 : Nat} {Pre : Pt → Array Value → Prop} {Post : Pt → Array Value → Option Value → Pt → Prop} {PostX : Pt → Array Value → Addr → Pt → Prop} (hK : vx_Back l R p e below s args y 3 W9 Pre Post PostX)
    {b : Addr} {cellB : Cell} (hcell : T.heap[b]? = some cellB) (hobj : cellB.vm.isStatics = false) (hcls : s.vm.findClass C = some cellB.cls)
    {g : JFrame} (hg : g.method = m) (hsize : g.locals.size = c.maxLocals) {argsL rest : List Value} (hlen : ∀ sig, parseMethodDescriptor y.desc = some sig → argsL.length = sig.parameters.length)
    (hstack : g.stack = argsL.reverse ++ .ref b :: rest) (hW : 2 * g.monitorRoom + (rest.map fun v => v.category).sum ≤ W9) (hdg : decode c.code g.pc = .ok (.invokevirtual index, 3))
    (hpre : ∀ vm₁, s.WarmedH vm₁ → Pre ⟨T.setVm vm₁, locs, cells, slots⟩ (Value.ref b :: argsL).toArray) :
    (∃ (v : Option Value) (vm₁ : Vm) (B : Pt), s.WarmedH vm₁ ∧ Stand p l e R s m args below meth c B.U B.locs B.cells B.slots ∧ Post ⟨T.setVm vm₁, locs, cells, slots⟩ (Value.ref b :: argsL).toArray v B ∧
      ∀ target, Steps p.tables e below (B.U.setTop { g with pc := g.pc + 3, stack := v.toList ++ rest }) target → Steps p.tables e below (T.setTop g) target) ∨
    (∃ (q : Addr) (vm₁ : Vm) (B : Pt), s.WarmedH vm₁ ∧ Stand p l e R s m args below meth c B.U B.locs B.cells B.slots ∧ PostX ⟨T.setVm vm₁, locs, cells, slots⟩ (Value.ref b :: argsL).toArray q B ∧
      Steps p.tables e below (T.setTop g) ((B.U.setTop { g with stack := rest }).pushFrame (.throwing q))) := by
  obtain ⟨mk, methM, hnamed, hmethM, hstM, habM⟩ := Cond.instanceMethod_spec hinst
  obtain ⟨m8, methM', cM, hn8, hmethM', -, -, -, -, -, -, hsigM⟩ := Cond.codeWith_spec hcode
  cases Option.some.inj (hn8.symm.trans hnamed)
  cases hmethM.symm.trans hmethM'
  obtain ⟨c2, r2, m2, q1, q2, q3, q4, kP, hkP, hkPi⟩ := Cond.selects_spec hsel
  cases hcls.symm.trans q1
  cases (State.methodFound?_of_named hnamed hy).symm.trans q2
  cases hnamed.symm.trans q3
  have hselP : selectMethod e.platform s.vm cellB.cls mk = .method mk := by rw [Launch.admits_selectMethod X.admits]; exact q4
  obtain ⟨vm₁, X₁, hstep₁⟩ := X.invokevirtual hexec hown hlink hnamed hmethM hstM hkP hkPi hy (a := b) (cell := cellB) hcell
    (fun z h => by rw [h] at hobj; cases hobj) hselP hmethM habM hkP hkPi (g := g) hg (argsL := argsL) (rest := rest) (hlen _ hsigM) hstack hdg
  rcases hK m meth c ⟨T.setVm vm₁, locs, cells, slots⟩ { g with stack := rest } (.invokevirtual index) mk (Value.ref b :: argsL).toArray X₁ hg hsize hdg hW (X₁.named hnamed) (hpre vm₁ X₁.warmed) with ⟨v, B, X', hpost, hsteps⟩ | ⟨q, B, X', hpost, hsteps⟩
  · exact Or.inl ⟨v, vm₁, B, X₁.warmed, X', hpost, fun target h => hstep₁ _ fun acts => by rw [doInvoke_state]; exact hsteps.trans h⟩
  · exact Or.inr ⟨q, vm₁, B, X₁.warmed, X', hpost, hstep₁ _ fun acts => by rw [doInvoke_state]; exact hsteps⟩
theorem vx_callSX (X : Stand p l e R s m args below meth c T locs cells slots) (hexec : p.tables.exec = Jvm.exec) {own : String} {index : Nat} {y : MethodName} {bytes : ByteArray} {maxL : Nat} {ret : Option FieldType} {hh : List (Nat × Nat × Nat × Nat)}
    (hown : s.vm.findClass own = some m.cls) (hlink : (Cond.methodLink own index y).before args s = true) (hstat : (Cond.static y).before args s = true) (hinit : (Cond.initialized y.cls).before args s = true)
    (hcode : (Cond.codeWith y bytes maxL ret hh).before args s = true) (hy : y.cls ≠ "java/lang/invoke/MethodHandle" ∧ y.cls ≠ "java/lang/invoke/VarHandle")
    {W9 : Nat} {Pre : Pt → Array Value → Prop} {Post : Pt → Array Value → Option Value → Pt → Prop} {PostX : Pt → Array Value → Addr → Pt → Prop} (hK : vx_Back l R p e below s args y 3 W9 Pre Post PostX)
    {g : JFrame} (hg : g.method = m) (hsize : g.locals.size = c.maxLocals) {argsL rest : List Value} (hlen : ∀ sig, parseMethodDescriptor y.desc = some sig → argsL.length = sig.parameters.length)
    (hstack : g.stack = argsL.reverse ++ rest) (hW : 2 * g.monitorRoom + (rest.map fun v => v.category).sum ≤ W9) (hdg : decode c.code g.pc = .ok (.invokestatic index, 3))
    (hpre : ∀ vm₁, s.WarmedH vm₁ → Pre ⟨T.setVm vm₁, locs, cells, slots⟩ argsL.toArray) :
    (∃ (v : Option Value) (vm₁ : Vm) (B : Pt), s.WarmedH vm₁ ∧ Stand p l e R s m args below meth c B.U B.locs B.cells B.slots ∧ Post ⟨T.setVm vm₁, locs, cells, slots⟩ argsL.toArray v B ∧
      ∀ target, Steps p.tables e below (B.U.setTop { g with pc := g.pc + 3, stack := v.toList ++ rest }) target → Steps p.tables e below (T.setTop g) target) ∨
    (∃ (q : Addr) (vm₁ : Vm) (B : Pt), s.WarmedH vm₁ ∧ Stand p l e R s m args below meth c B.U B.locs B.cells B.slots ∧ PostX ⟨T.setVm vm₁, locs, cells, slots⟩ argsL.toArray q B ∧
      Steps p.tables e below (T.setTop g) ((B.U.setTop { g with stack := rest }).pushFrame (.throwing q))) := by
  obtain ⟨mk, methM, cM, hnamed, hmethM, -, -, -, -, -, -, hsigM⟩ := Cond.codeWith_spec hcode
  have hstatic : methM.isStatic = true := Cond.static_spec hnamed hmethM hstat
  obtain ⟨kP, hkP, -⟩ := className_of_methodNamed hnamed
  have hinitP : kP.init = .initialized := Cond.initialized_spec (findClass_of_methodNamed hnamed) hkP hinit
  obtain ⟨vm₁, X₁, hstep₁⟩ := X.invokestatic hexec hown hlink hnamed hmethM hstatic hkP hinitP hy (g := g) hg (argsL := argsL) (rest := rest) (hlen _ hsigM) hstack hdg
  rcases hK m meth c ⟨T.setVm vm₁, locs, cells, slots⟩ { g with stack := rest } (.invokestatic index) mk argsL.toArray X₁ hg hsize hdg hW (X₁.named hnamed) (hpre vm₁ X₁.warmed) with ⟨v, B, X', hpost, hsteps⟩ | ⟨q, B, X', hpost, hsteps⟩
  · exact Or.inl ⟨v, vm₁, B, X₁.warmed, X', hpost, fun target h => hstep₁ _ fun acts => by rw [doInvoke_state]; exact hsteps.trans h⟩
  · exact Or.inr ⟨q, vm₁, B, X₁.warmed, X', hpost, hstep₁ _ fun acts => by rw [doInvoke_state]; exact hsteps⟩
theorem vx_callVW (X : Stand p l e R s m args below meth c T locs cells slots) (hexec : p.tables.exec = Jvm.exec) {own C : String} {index : Nat} {y : MethodName} {bytes : ByteArray} {maxL : Nat} {ret : Option FieldType} {hh : List (Nat × Nat × Nat × Nat)}
    (hown : s.vm.findClass own = some m.cls) (hlink : (Cond.methodLink own index y).before args s = true) (hinst : (Cond.instanceMethod y).before args s = true) (hsel : (Cond.selects C y y).before args s = true)
    (hcode : (Cond.codeWith y bytes maxL ret hh).before args s = true) (hy : y.cls ≠ "java/lang/invoke/MethodHandle" ∧ y.cls ≠ "java/lang/invoke/VarHandle")
    {W9 : Nat} {Pre : Pt → Array Value → Prop} {Post : Pt → Array Value → Option Value → Pt → Prop} (hK : Back l R p e below s args y 3 W9 Pre Post)
    {b : Addr} {cellB : Cell} (hcell : T.heap[b]? = some cellB) (hobj : cellB.vm.isStatics = false) (hcls : s.vm.findClass C = some cellB.cls)
    {g : JFrame} (hg : g.method = m) (hsize : g.locals.size = c.maxLocals) {argsL rest : List Value} (hlen : ∀ sig, parseMethodDescriptor y.desc = some sig → argsL.length = sig.parameters.length)
    (hstack : g.stack = argsL.reverse ++ .ref b :: rest) (hW : 2 * g.monitorRoom + (rest.map fun v => v.category).sum ≤ W9) (hdg : decode c.code g.pc = .ok (.invokevirtual index, 3))
    (hpre : ∀ vm₁, s.WarmedH vm₁ → Pre ⟨T.setVm vm₁, locs, cells, slots⟩ (Value.ref b :: argsL).toArray) :
    ∃ (v : Option Value) (vm₁ : Vm) (B : Pt), s.WarmedH vm₁ ∧ Stand p l e R s m args below meth c B.U B.locs B.cells B.slots ∧ Post ⟨T.setVm vm₁, locs, cells, slots⟩ (Value.ref b :: argsL).toArray v B ∧
      ∀ target, Steps p.tables e below (B.U.setTop { g with pc := g.pc + 3, stack := v.toList ++ rest }) target → Steps p.tables e below (T.setTop g) target := by
  obtain ⟨mk, methM, hnamed, hmethM, hstM, habM⟩ := Cond.instanceMethod_spec hinst
  obtain ⟨m8, methM', cM, hn8, hmethM', -, -, -, -, -, -, hsigM⟩ := Cond.codeWith_spec hcode
  cases Option.some.inj (hn8.symm.trans hnamed)
  cases hmethM.symm.trans hmethM'
  obtain ⟨c2, r2, m2, q1, q2, q3, q4, kP, hkP, hkPi⟩ := Cond.selects_spec hsel
  cases hcls.symm.trans q1
  cases (State.methodFound?_of_named hnamed hy).symm.trans q2
  cases hnamed.symm.trans q3
  have hselP : selectMethod e.platform s.vm cellB.cls mk = .method mk := by rw [Launch.admits_selectMethod X.admits]; exact q4
  obtain ⟨vm₁, X₁, hstep₁⟩ := X.invokevirtual hexec hown hlink hnamed hmethM hstM hkP hkPi hy (a := b) (cell := cellB) hcell
    (fun z h => by rw [h] at hobj; cases hobj) hselP hmethM habM hkP hkPi (g := g) hg (argsL := argsL) (rest := rest) (hlen _ hsigM) hstack hdg
  obtain ⟨v, B, X', hpost, hsteps⟩ := hK m meth c ⟨T.setVm vm₁, locs, cells, slots⟩ { g with stack := rest } (.invokevirtual index) mk (Value.ref b :: argsL).toArray X₁ hg hsize hdg hW (X₁.named hnamed) (hpre vm₁ X₁.warmed)
  exact ⟨v, vm₁, B, X₁.warmed, X', hpost, fun target h => hstep₁ _ fun acts => by rw [doInvoke_state]; exact hsteps.trans h⟩
abbrev vx_CVW (R : Room) (s : State) (args : Array Value) (own C : String) (index : Nat) (y : MethodName) (bytes : ByteArray) (maxL : Nat) (ret : Option FieldType) (hh : List (Nat × Nat × Nat × Nat)) (ws : List Cond) (rm : Room) (mc ms n : Nat) : Prop :=
  (rm.cells = mc ∧ rm.slots = ms ∧ rm.frames + 1 ≤ R.frames ∧ 8 + (maxL + 11) + rm.locals ≤ R.locals ∧ (∀ w ∈ ws, ∀ (a' : Array Value) (U : State), s.WarmedH U.vm → w.before a' U = true) ∧ Cond.codeWith y bytes maxL ret hh ∈ ws) ∧
  (Cond.codeWith y bytes maxL ret hh).before args s = true ∧ (Cond.initialized y.cls).before args s = true ∧ (y.cls ≠ "java/lang/invoke/MethodHandle" ∧ y.cls ≠ "java/lang/invoke/VarHandle") ∧
  (∀ sig, parseMethodDescriptor y.desc = some sig → n = sig.parameters.length) ∧ (Cond.methodLink own index y).before args s = true ∧ (Cond.instanceMethod y).before args s = true ∧ (Cond.selects C y y).before args s = true
theorem vx_cwVW {own C : String} {index maxL mc ms : Nat} {y : MethodName} {bytes : ByteArray} {ret : Option FieldType} {hh : List (Nat × Nat × Nat × Nat)} {Ts ws ws' : List Cond} {rm : Room} (n : Nat) (ht : ∀ w ∈ Ts, w.before args s = true) (hT : GoodIn Ts (wsV own index C y ws)) (hw : ws = Cond.codeWith y bytes maxL ret hh :: ws') (hrc : rm.cells = mc) (hrs : rm.slots = ms)
    (hd : y.cls = C ∧ y.cls ≠ "java/lang/invoke/MethodHandle" ∧ y.cls ≠ "java/lang/invoke/VarHandle" ∧ (parseMethodDescriptor y.desc).map (fun d => d.parameters.length) = some n) (hR : rm.frames + 1 ≤ R.frames ∧ 8 + (maxL + 11) + rm.locals ≤ R.locals) :
    vx_CVW R s args own C index y bytes maxL ret hh ws rm mc ms n := by
  obtain ⟨hC, hd⟩ := hd
  subst hC
  have ok : ∀ w ∈ wsV own index y.cls y ws, w.before args s = true := fun w h => ht w (hT w h).1
  have hG : GoodIn Ts ws := fun w h => hT w (by unfold wsV; exact List.mem_append_right _ h)
  have hc : Cond.codeWith y bytes maxL ret hh ∈ ws := by rw [hw]; exact List.mem_cons_self
  refine ⟨⟨hrc, hrs, hR.1, hR.2, pay_in ht hG, hc⟩, ht _ (hG _ hc).1, ok _ (by simp [wsV]), ⟨hd.1, hd.2.1⟩, fun sig h => ?_, ok _ (by simp [wsV]), ok _ (by simp [wsV]), ok _ (by simp [wsV])⟩
  have h2 := hd.2.2
  rw [h] at h2
  exact (Option.some.inj h2).symm
theorem vx_runVW {y : MethodName} {bytes cc : ByteArray} {maxL nL mc ms n index : Nat} {ret : Option FieldType} {hh : List (Nat × Nat × Nat × Nat)} {ws : List Cond} {rm : Room} {Pc : Array Value → State → Prop} {Qc : Array Value → State → Outcome → State → Prop} {free : Addr → Prop} {Ts : List Cond} {own C : String} {b : Addr} {As rest : List Value} {g : JFrame}
    (S : CallFix p m c cc nL s args Ts own) (hM : Met l y ws rm Pc Qc mc ms free) (cw : vx_CVW R s args own C index y bytes maxL ret hh ws rm mc ms n) (hp : PreV s H C b Pc As)
    (hg : g.method = m) (hn : As.length = n) (hsize : g.locals.size = nL) (hstack : g.stack = As.reverse ++ .ref b :: rest) (hW : 2 * g.monitorRoom + (rest.map fun v => v.category).sum ≤ 8) (hdg : decode cc g.pc = .ok (.invokevirtual index, 3)) (hf : cells + mc ≤ R.cells ∧ slots + ms ≤ R.slots) :
    va_Run p l e R s m args below meth c H locs cells slots mc ms g rest (Qc (Value.ref b :: As).toArray) free := by
  obtain ⟨⟨hrc, hrs, hfr, hlo, hws, hcw⟩, hcode, hini, hy, hlen, hl, hin, hse⟩ := cw
  have hK : Back l R p e below s args y 3 8 (PreOf R mc ms Pc) (PostOf Qc mc ms free) := va_backW (hh := hh) (bytes := bytes) (maxL := maxL) (ret := ret) hM hp.1 hrc hrs hfr hlo hws hcw (fun a' U hW => word_at hW (Or.inl (by first | rfl | simp [Cond.onTables, Cond.keeps, Cond.steady])) hini)
  obtain ⟨hx, hb, hml, ho, -⟩ := S
  obtain ⟨-, ⟨cellB, hcB, hoB, hclB⟩, hPc⟩ := hp
  intro T hT X
  obtain ⟨v, vm₁, ⟨U', l2, c2, s2⟩, hW₁, X', ⟨g', mk, t, L, e1, e2, hq, h1, hL, h2, h3⟩, st⟩ := vx_callVW X hx (C := C) (hh := hh) (bytes := bytes) (maxL := maxL) (ret := ret) ho hl hin hse hcode hy hK (by rw [hT]; exact hcB) hoB hclB hg (hsize.trans hml.symm) (argsL := As) (rest := rest) (fun sig h => hn.trans (hlen sig h)) hstack hW (by rw [hb]; exact hdg)
    (fun vm₁ hW₁ => ⟨hf.1, hf.2, hPc (T.setVm vm₁) hT hW₁⟩)
  dsimp only [Pt.U, Pt.locs, Pt.cells, Pt.slots] at X' e1 e2 h1 h2 h3 st
  subst h1; subst h2; subst h3
  exact ⟨v, (T.setVm vm₁).calling g' mk (Value.ref b :: As).toArray, t, U', L, hT, X', hL, e1, e2, hq, st⟩
section
variable {y : MethodName} {bytes cc : ByteArray} {maxL nL mc ms n index : Nat} {ret : Option FieldType} {ws : List Cond} {rm : Room} {Pc : Array Value → State → Prop} {Qc : Array Value → State → Outcome → State → Prop} {XC : String → State → State → Prop} {free : Addr → Prop} {Ts : List Cond} {own C : String} {b : Addr} {As rest : List Value} {g : JFrame}
theorem vx_runVX {hh : List (Nat × Nat × Nat × Nat)} (S : CallFix p m c cc nL s args Ts own) (hM : vx_Met l y ws rm Pc Qc XC mc ms free) (cw : vx_CVW R s args own C index y bytes maxL ret hh ws rm mc ms n) (hp : PreV s H C b Pc As)
    (hg : g.method = m) (hn : As.length = n) (hsize : g.locals.size = nL) (hstack : g.stack = As.reverse ++ .ref b :: rest) (hW : 2 * g.monitorRoom + (rest.map fun v => v.category).sum ≤ 8) (hdg : decode cc g.pc = .ok (.invokevirtual index, 3)) (hf : cells + mc ≤ R.cells ∧ slots + ms ≤ R.slots) :
    vx_Run p l e R s m args below meth c H locs cells slots mc ms g rest (Qc (Value.ref b :: As).toArray) XC free := by
  obtain ⟨⟨hrc, hrs, hfr, hlo, hws, hcw⟩, hcode, hini, hy, hlen, hl, hin, hse⟩ := cw
  have hK : vx_Back l R p e below s args y 3 8 (PreOf R mc ms Pc) (PostOf Qc mc ms free) (vx_Post XC mc ms free) := vx_backW (hh := hh) (bytes := bytes) (maxL := maxL) (ret := ret) hM hp.1 hrc hrs hfr hlo hws hcw (fun a' U hW => word_at hW (Or.inl (by first | rfl | simp [Cond.onTables, Cond.keeps, Cond.steady])) hini)
  obtain ⟨hx, hb, hml, ho, -⟩ := S
  obtain ⟨-, ⟨cellB, hcB, hoB, hclB⟩, hPc⟩ := hp
  intro T hT X
  rcases vx_callVX X hx (C := C) (hh := hh) (bytes := bytes) (maxL := maxL) (ret := ret) ho hl hin hse hcode hy hK (by rw [hT]; exact hcB) hoB hclB hg (hsize.trans hml.symm) (argsL := As) (rest := rest) (fun sig h => hn.trans (hlen sig h)) hstack hW (by rw [hb]; exact hdg)
    (fun vm₁ hW₁ => ⟨hf.1, hf.2, hPc (T.setVm vm₁) hT hW₁⟩) with ⟨v, vm₁, ⟨U', l2, c2, s2⟩, hW₁, X', ⟨g', mk, t, L, e1, e2, hq, h1, hL, h2, h3⟩, st⟩ | ⟨q, vm₁, ⟨U', l2, c2, s2⟩, hW₁, X', ⟨g', mk, t, L, E, ce, e1, e2, hq, hce, hcv, hcl, h1, hL, h2, h3⟩, st⟩
  · dsimp only [Pt.U, Pt.locs, Pt.cells, Pt.slots] at X' e1 e2 h1 h2 h3 st
    subst h1; subst h2; subst h3
    exact Or.inl ⟨v, (T.setVm vm₁).calling g' mk (Value.ref b :: As).toArray, t, U', L, hT, X', hL, e1, e2, hq, st⟩
  · dsimp only [Pt.U, Pt.locs, Pt.cells, Pt.slots] at X' e1 e2 h1 h2 h3 st hcl
    subst h1; subst h2; subst h3
    exact Or.inr ⟨q, (T.setVm vm₁).calling g' mk (Value.ref b :: As).toArray, t, U', L, E, ce, hT, X', hL, e1, e2, hq, hce, hcv, vx_cls hW₁ hcl, st⟩
theorem vx_runSX {hh : List (Nat × Nat × Nat × Nat)} (S : CallFix p m c cc nL s args Ts own) (hM : vx_Met l y ws rm Pc Qc XC mc ms free) (cw : vx_CSW R s args own index y bytes maxL ret hh ws rm mc ms n) (hp : PreS s H Pc As)
    (hg : g.method = m) (hn : As.length = n) (hsize : g.locals.size = nL) (hstack : g.stack = As.reverse ++ rest) (hW : 2 * g.monitorRoom + (rest.map fun v => v.category).sum ≤ 8) (hdg : decode cc g.pc = .ok (.invokestatic index, 3)) (hf : cells + mc ≤ R.cells ∧ slots + ms ≤ R.slots) :
    vx_Run p l e R s m args below meth c H locs cells slots mc ms g rest (Qc As.toArray) XC free := by
  obtain ⟨⟨hrc, hrs, hfr, hlo, hws, hcw⟩, hcode, hini, hy, hlen, hl, hstt⟩ := cw
  have hK : vx_Back l R p e below s args y 3 8 (PreOf R mc ms Pc) (PostOf Qc mc ms free) (vx_Post XC mc ms free) := vx_backW (hh := hh) (bytes := bytes) (maxL := maxL) (ret := ret) hM hp.1 hrc hrs hfr hlo hws hcw (fun a' U hW => word_at hW (Or.inl (by first | rfl | simp [Cond.onTables, Cond.keeps, Cond.steady])) hini)
  obtain ⟨hx, hb, hml, ho, -⟩ := S
  intro T hT X
  rcases vx_callSX X hx (hh := hh) (bytes := bytes) (maxL := maxL) (ret := ret) ho hl hstt hini hcode hy hK hg (hsize.trans hml.symm) (argsL := As) (rest := rest) (fun sig h => hn.trans (hlen sig h)) hstack hW (by rw [hb]; exact hdg)
    (fun vm₁ hW₁ => ⟨hf.1, hf.2, hp.2 (T.setVm vm₁) hT hW₁⟩) with ⟨v, vm₁, ⟨U', l2, c2, s2⟩, hW₁, X', ⟨g', mk, t, L, e1, e2, hq, h1, hL, h2, h3⟩, st⟩ | ⟨q, vm₁, ⟨U', l2, c2, s2⟩, hW₁, X', ⟨g', mk, t, L, E, ce, e1, e2, hq, hce, hcv, hcl, h1, hL, h2, h3⟩, st⟩
  · dsimp only [Pt.U, Pt.locs, Pt.cells, Pt.slots] at X' e1 e2 h1 h2 h3 st
    subst h1; subst h2; subst h3
    exact Or.inl ⟨v, (T.setVm vm₁).calling g' mk As.toArray, t, U', L, hT, X', hL, e1, e2, hq, st⟩
  · dsimp only [Pt.U, Pt.locs, Pt.cells, Pt.slots] at X' e1 e2 h1 h2 h3 st hcl
    subst h1; subst h2; subst h3
    exact Or.inr ⟨q, (T.setVm vm₁).calling g' mk As.toArray, t, U', L, E, ce, hT, X', hL, e1, e2, hq, hce, hcv, vx_cls hW₁ hcl, st⟩
end
end VXH
theorem vx_ofWH {l : Launch} {y : MethodName} {ws ws' : List Cond} {rm : Room} {Pc : Array Value → State → Prop} {Qc : Array Value → State → Outcome → State → Prop} {XC : String → State → State → Prop} {mc ms : Nat} {free : Addr → Prop} {cc : ByteArray} {maxL : Nat} {ret : Option FieldType} {hh : List (Nat × Nat × Nat × Nat)}
    (hy : plainName y.cls = true) (hw : ws = Cond.codeWith y cc maxL ret hh :: ws')
    (body : ∀ p e s m args below meth c s₁, BodyLoose p l y (headSpec ws rm) cc maxL ret e s m args below meth c s₁ → c.maxLocals = maxL → Pc args s →
      W p l e (headSpec ws rm).room s m args below meth c s.heap [] 0 0 (vx_MQ below Qc XC args s mc ms free) (entryFrame m args maxL)) : vx_Met l y ws rm Pc Qc XC mc ms free := by
  refine MetFree.of_bodyS (code := cc) (maxLocals := maxL) (ret := ret) hy ?_ ?_
  · intro args s m h hn
    obtain ⟨m9, meth, c, hn9, h1, h2, h3, h4, -, h5, h6, -⟩ := Cond.codeWith_spec (atoms_spec (ws := ws) h _ (by rw [hw]; exact List.mem_cons_self))
    cases hn.symm.trans hn9
    exact ⟨meth, c, h1, h2, h3, h4, h5, h6⟩
  · intro p e s m args below meth c s₁ B hml hP _
    have hh0 : s₁.heap = s.heap := by rw [B.state]; rfl
    obtain ⟨t, a1, o, b1, b2, b3⟩ := body p e s m args below meth c s₁ B hml hP s₁ hh0 (Stand.of_body B)
    exact ⟨t, o, a1, b1, b2, b3⟩
/-! ===== END ===== -/
end
section
/-! ===== BEGIN printed: names, fields, word lists, decode rows ===== -/
def RX0 : String := "AlignRows$Glue"
def TX0 : u_T := fun k => match k with
  | 0 => ("AlignRows$Glue", "width", "I", false)
  | 1 => ("AlignRows$Glue", "stretch", "I", false)
  | 2 => ("AlignRows$Glue", "stretchOrder", "I", false)
  | 3 => ("AlignRows$Glue", "shrink", "I", false)
  | _ => ("AlignRows$Glue", "shrinkOrder", "I", false)
def tyX0 : Nat → FieldType := fun k => match k with
  | 0 => .int
  | 1 => .int
  | 2 => .int
  | 3 => .int
  | _ => .int
abbrev wsX00 : List Cond := u_ws RX0 TX0 5
theorem nmX0 : ∀ a, a < 5 → ∀ b, b < 5 → a ≠ b → (TX0 a).2.1 ≠ (TX0 b).2.1 := by decide +kernel
theorem tyX0_ok : ∀ k, k < 5 → parseFieldDescriptor (TX0 k).2.2.1 = some (tyX0 k) := by decide +kernel
abbrev cX0_init : ByteArray := prog_2_method_1_code
def yX0_init : MethodName := ⟨RX0, "<init>", "()V"⟩
abbrev cX0_setStretch : ByteArray := prog_2_method_2_code
def yX0_setStretch : MethodName := ⟨RX0, "setStretch", "(III)V"⟩
abbrev cX0_setShrink : ByteArray := prog_2_method_3_code
def yX0_setShrink : MethodName := ⟨RX0, "setShrink", "(II)V"⟩
def RX1 : String := "AlignRows$LastRun"
def TX1 : u_T := fun k => match k with
  | 0 => ("AlignRows$LastRun", "widths", "[I", true)
  | 1 => ("AlignRows$LastRun", "voids", "[Z", true)
  | 2 => ("AlignRows$LastRun", "places", "[J", true)
  | 3 => ("AlignRows$LastRun", "glueWidths", "[I", true)
  | 4 => ("AlignRows$LastRun", "gives", "[I", true)
  | 5 => ("AlignRows$LastRun", "giveOrders", "[I", true)
  | 6 => ("AlignRows$LastRun", "needs", "LAlignRows$Needs;", true)
  | 7 => ("AlignRows$LastRun", "runs", "I", false)
  | 8 => ("AlignRows$LastRun", "columns", "I", false)
  | 9 => ("AlignRows$LastRun", "natural", "J", false)
  | 10 => ("AlignRows$LastRun", "excess", "J", false)
  | 11 => ("AlignRows$LastRun", "order", "I", false)
  | _ => ("AlignRows$LastRun", "missing", "J", false)
def tyX1 : Nat → FieldType := fun k => match k with
  | 0 => .array .int
  | 1 => .array .boolean
  | 2 => .array .long
  | 3 => .array .int
  | 4 => .array .int
  | 5 => .array .int
  | 6 => .object "AlignRows$Needs"
  | 7 => .int
  | 8 => .int
  | 9 => .long
  | 10 => .long
  | 11 => .int
  | _ => .long
abbrev wsX10 : List Cond := u_ws RX1 TX1 13
theorem nmX1 : ∀ a, a < 13 → ∀ b, b < 13 → a ≠ b → (TX1 a).2.1 ≠ (TX1 b).2.1 := by decide +kernel
theorem tyX1_ok : ∀ k, k < 13 → parseFieldDescriptor (TX1 k).2.2.1 = some (tyX1 k) := by decide +kernel
abbrev cX1_init : ByteArray := prog_3_method_1_code
def yX1_init : MethodName := ⟨RX1, "<init>", "()V"⟩
abbrev cX1_setTable : ByteArray := prog_3_method_2_code
def yX1_setTable : MethodName := ⟨RX1, "setTable", "(LAlignRows$Table;II)J"⟩
abbrev cX1_gatherNeeds : ByteArray := prog_3_method_3_code
def yX1_gatherNeeds : MethodName := ⟨RX1, "gatherNeeds", "(LAlignRows$Table;)V"⟩
abbrev cX1_findWidths : ByteArray := prog_3_method_4_code
def yX1_findWidths : MethodName := ⟨RX1, "findWidths", "(LAlignRows$Table;)V"⟩
abbrev cX1_naturalWidth : ByteArray := prog_3_method_5_code
def yX1_naturalWidth : MethodName := ⟨RX1, "naturalWidth", "()J"⟩
abbrev cX1_gatherGives : ByteArray := prog_3_method_6_code
def yX1_gatherGives : MethodName := ⟨RX1, "gatherGives", "(LAlignRows$Table;)V"⟩
abbrev cX1_greatestOrder : ByteArray := prog_3_method_7_code
def yX1_greatestOrder : MethodName := ⟨RX1, "greatestOrder", "()I"⟩
abbrev cX1_wholeSum : ByteArray := prog_3_method_8_code
def yX1_wholeSum : MethodName := ⟨RX1, "wholeSum", "()J"⟩
abbrev cX1_giveOf : ByteArray := prog_3_method_9_code
def yX1_giveOf : MethodName := ⟨RX1, "giveOf", "(I)J"⟩
abbrev cX1_share : ByteArray := prog_3_method_10_code
def yX1_share : MethodName := ⟨RX1, "share", "()V"⟩
abbrev cX1_findPlaces : ByteArray := prog_3_method_11_code
def yX1_findPlaces : MethodName := ⟨RX1, "findPlaces", "(JJ)V"⟩
abbrev cX1_setWidth : ByteArray := prog_3_method_12_code
def yX1_setWidth : MethodName := ⟨RX1, "setWidth", "()J"⟩
abbrev cX1_isNestable : ByteArray := prog_3_method_13_code
def yX1_isNestable : MethodName := ⟨RX1, "isNestable", "()Z"⟩
abbrev cX1_hasColumn : ByteArray := prog_3_method_14_code
def yX1_hasColumn : MethodName := ⟨RX1, "hasColumn", "(I)Z"⟩
abbrev cX1_boxPlace : ByteArray := prog_3_method_15_code
def yX1_boxPlace : MethodName := ⟨RX1, "boxPlace", "(II)J"⟩
abbrev cX1_boxWidth : ByteArray := prog_3_method_16_code
def yX1_boxWidth : MethodName := ⟨RX1, "boxWidth", "(II)J"⟩
abbrev cX1_tell : ByteArray := prog_3_method_17_code
def yX1_tell : MethodName := ⟨RX1, "tell", "(I)J"⟩
def RX2 : String := "AlignRows$Needs"
def TX2 : u_T := fun k => match k with
  | _ => ("AlignRows$Needs", "greatest", "[[I", true)
def tyX2 : Nat → FieldType := fun k => match k with
  | _ => .array (.array .int)
abbrev wsX20 : List Cond := u_ws RX2 TX2 1
theorem nmX2 : ∀ a, a < 1 → ∀ b, b < 1 → a ≠ b → (TX2 a).2.1 ≠ (TX2 b).2.1 := by decide +kernel
theorem tyX2_ok : ∀ k, k < 1 → parseFieldDescriptor (TX2 k).2.2.1 = some (tyX2 k) := by decide +kernel
abbrev cX2_init : ByteArray := prog_4_method_1_code
def yX2_init : MethodName := ⟨RX2, "<init>", "()V"⟩
abbrev cX2_clear : ByteArray := prog_4_method_2_code
def yX2_clear : MethodName := ⟨RX2, "clear", "()V"⟩
abbrev cX2_add : ByteArray := prog_4_method_3_code
def yX2_add : MethodName := ⟨RX2, "add", "(III)V"⟩
abbrev cX2_over : ByteArray := prog_4_method_4_code
def yX2_over : MethodName := ⟨RX2, "over", "(I)I"⟩
abbrev cX2_moveOn : ByteArray := prog_4_method_5_code
def yX2_moveOn : MethodName := ⟨RX2, "moveOn", "(II)V"⟩
def RX3 : String := "AlignRows$Preamble"
def TX3 : u_T := fun k => match k with
  | 0 => ("AlignRows$Preamble", "tape", "[C", true)
  | 1 => ("AlignRows$Preamble", "before", "[I", true)
  | 2 => ("AlignRows$Preamble", "behind", "[I", true)
  | 3 => ("AlignRows$Preamble", "length", "I", false)
  | 4 => ("AlignRows$Preamble", "laid", "Z", false)
  | 5 => ("AlignRows$Preamble", "templates", "I", false)
  | 6 => ("AlignRows$Preamble", "repeatFrom", "I", false)
  | _ => ("AlignRows$Preamble", "marked", "Z", false)
def tyX3 : Nat → FieldType := fun k => match k with
  | 0 => .array .char
  | 1 => .array .int
  | 2 => .array .int
  | 3 => .int
  | 4 => .boolean
  | 5 => .int
  | 6 => .int
  | _ => .boolean
abbrev wsX30 : List Cond := u_ws RX3 TX3 8
theorem nmX3 : ∀ a, a < 8 → ∀ b, b < 8 → a ≠ b → (TX3 a).2.1 ≠ (TX3 b).2.1 := by decide +kernel
theorem tyX3_ok : ∀ k, k < 8 → parseFieldDescriptor (TX3 k).2.2.1 = some (tyX3 k) := by decide +kernel
abbrev cX3_init : ByteArray := prog_5_method_1_code
def yX3_init : MethodName := ⟨RX3, "<init>", "()V"⟩
abbrev cX3_append : ByteArray := prog_5_method_2_code
def yX3_append : MethodName := ⟨RX3, "append", "(III)I"⟩
abbrev cX3_byteOf : ByteArray := prog_5_method_3_code
def yX3_byteOf : MethodName := ⟨RX3, "byteOf", "(II)I"⟩
abbrev cX3_hasOnlySigns : ByteArray := prog_5_method_4_code
def yX3_hasOnlySigns : MethodName := ⟨RX3, "hasOnlySigns", "(I)Z"⟩
abbrev cX3_signsOf : ByteArray := prog_5_method_5_code
def yX3_signsOf : MethodName := ⟨RX3, "signsOf", "(I)I"⟩
abbrev cX3_putSigns : ByteArray := prog_5_method_6_code
def yX3_putSigns : MethodName := ⟨RX3, "putSigns", "(I)V"⟩
abbrev cX3_readTape : ByteArray := prog_5_method_7_code
def yX3_readTape : MethodName := ⟨RX3, "readTape", "()I"⟩
abbrev cX3_findWrongPlace : ByteArray := prog_5_method_8_code
def yX3_findWrongPlace : MethodName := ⟨RX3, "findWrongPlace", "()I"⟩
abbrev cX3_takeSign : ByteArray := prog_5_method_9_code
def yX3_takeSign : MethodName := ⟨RX3, "takeSign", "(I)Z"⟩
abbrev cX3_beginTemplate : ByteArray := prog_5_method_10_code
def yX3_beginTemplate : MethodName := ⟨RX3, "beginTemplate", "()Z"⟩
abbrev cX3_beginRepeat : ByteArray := prog_5_method_11_code
def yX3_beginRepeat : MethodName := ⟨RX3, "beginRepeat", "(I)Z"⟩
abbrev cX3_columnLimit : ByteArray := prog_5_method_12_code
def yX3_columnLimit : MethodName := ⟨RX3, "columnLimit", "()I"⟩
abbrev cX3_templateOf : ByteArray := prog_5_method_13_code
def yX3_templateOf : MethodName := ⟨RX3, "templateOf", "(I)I"⟩
abbrev cX3_textOf : ByteArray := prog_5_method_14_code
def yX3_textOf : MethodName := ⟨RX3, "textOf", "(II)I"⟩
def RX4 : String := "AlignRows$Row"
def TX4 : u_T := fun k => match k with
  | 0 => ("AlignRows$Row", "widths", "[I", true)
  | 1 => ("AlignRows$Row", "firsts", "[I", true)
  | 2 => ("AlignRows$Row", "spans", "[I", true)
  | 3 => ("AlignRows$Row", "entries", "I", false)
  | _ => ("AlignRows$Row", "columns", "I", false)
def tyX4 : Nat → FieldType := fun k => match k with
  | 0 => .array .int
  | 1 => .array .int
  | 2 => .array .int
  | 3 => .int
  | _ => .int
abbrev wsX40 : List Cond := u_ws RX4 TX4 5
theorem nmX4 : ∀ a, a < 5 → ∀ b, b < 5 → a ≠ b → (TX4 a).2.1 ≠ (TX4 b).2.1 := by decide +kernel
theorem tyX4_ok : ∀ k, k < 5 → parseFieldDescriptor (TX4 k).2.2.1 = some (tyX4 k) := by decide +kernel
abbrev cX4_init : ByteArray := prog_6_method_1_code
def yX4_init : MethodName := ⟨RX4, "<init>", "()V"⟩
abbrev cX4_append : ByteArray := prog_6_method_2_code
def yX4_append : MethodName := ⟨RX4, "append", "(II)V"⟩
def RX5 : String := "AlignRows$Table"
def TX5 : u_T := fun k => match k with
  | 0 => ("AlignRows$Table", "preamble", "LAlignRows$Preamble;", true)
  | 1 => ("AlignRows$Table", "glues", "[LAlignRows$Glue;", true)
  | 2 => ("AlignRows$Table", "rows", "[LAlignRows$Row;", true)
  | 3 => ("AlignRows$Table", "items", "[I", true)
  | 4 => ("AlignRows$Table", "lastRun", "LAlignRows$LastRun;", true)
  | 5 => ("AlignRows$Table", "rowCount", "I", false)
  | 6 => ("AlignRows$Table", "betweenCount", "I", false)
  | 7 => ("AlignRows$Table", "itemCount", "I", false)
  | _ => ("AlignRows$Table", "open", "Z", false)
def tyX5 : Nat → FieldType := fun k => match k with
  | 0 => .object "AlignRows$Preamble"
  | 1 => .array (.object "AlignRows$Glue")
  | 2 => .array (.object "AlignRows$Row")
  | 3 => .array .int
  | 4 => .object "AlignRows$LastRun"
  | 5 => .int
  | 6 => .int
  | 7 => .int
  | _ => .boolean
abbrev wsX50 : List Cond := u_ws RX5 TX5 9
theorem nmX5 : ∀ a, a < 9 → ∀ b, b < 9 → a ≠ b → (TX5 a).2.1 ≠ (TX5 b).2.1 := by decide +kernel
theorem tyX5_ok : ∀ k, k < 9 → parseFieldDescriptor (TX5 k).2.2.1 = some (tyX5 k) := by decide +kernel
abbrev cX5_init : ByteArray := prog_7_method_1_code
def yX5_init : MethodName := ⟨RX5, "<init>", "()V"⟩
abbrev cX5_isAtRest : ByteArray := prog_7_method_2_code
def yX5_isAtRest : MethodName := ⟨RX5, "isAtRest", "()Z"⟩
abbrev cX5_refuseGlue : ByteArray := prog_7_method_3_code
def yX5_refuseGlue : MethodName := ⟨RX5, "refuseGlue", "(I)I"⟩
abbrev cX5_openRow : ByteArray := prog_7_method_4_code
def yX5_openRow : MethodName := ⟨RX5, "openRow", "()I"⟩
abbrev cX5_addBetween : ByteArray := prog_7_method_5_code
def yX5_addBetween : MethodName := ⟨RX5, "addBetween", "()I"⟩
abbrev cX5_putItem : ByteArray := prog_7_method_6_code
def yX5_putItem : MethodName := ⟨RX5, "putItem", "(I)V"⟩
abbrev cX5_closeRow : ByteArray := prog_7_method_7_code
def yX5_closeRow : MethodName := ⟨RX5, "closeRow", "()I"⟩
abbrev cX5_addEntry : ByteArray := prog_7_method_8_code
def yX5_addEntry : MethodName := ⟨RX5, "addEntry", "(IIZ)I"⟩
abbrev cX5_hasEntry : ByteArray := prog_7_method_9_code
def yX5_hasEntry : MethodName := ⟨RX5, "hasEntry", "(II)Z"⟩
abbrev cX5_entriesOfAll : ByteArray := prog_7_method_10_code
def yX5_entriesOfAll : MethodName := ⟨RX5, "entriesOfAll", "()I"⟩
abbrev cX5_glueAt : ByteArray := prog_7_method_11_code
def yX5_glueAt : MethodName := ⟨RX5, "glueAt", "(I)LAlignRows$Glue;"⟩
abbrev cX5_tell : ByteArray := prog_7_method_12_code
def yX5_tell : MethodName := ⟨RX5, "tell", "(I)J"⟩
def RX6 : String := "AlignRows"
def TX6 : u_T := fun k => match k with
  | 0 => ("AlignRows", "tables", "[LAlignRows$Table;", true)
  | _ => ("AlignRows", "tableCount", "I", false)
def tyX6 : Nat → FieldType := fun k => match k with
  | 0 => .array (.object "AlignRows$Table")
  | _ => .int
abbrev wsX60 : List Cond := u_ws RX6 TX6 2
theorem nmX6 : ∀ a, a < 2 → ∀ b, b < 2 → a ≠ b → (TX6 a).2.1 ≠ (TX6 b).2.1 := by decide +kernel
theorem tyX6_ok : ∀ k, k < 2 → parseFieldDescriptor (TX6 k).2.2.1 = some (tyX6 k) := by decide +kernel
abbrev cX6_init : ByteArray := prog_1_method_1_code
def yX6_init : MethodName := ⟨RX6, "<init>", "()V"⟩
abbrev cX6_table : ByteArray := prog_1_method_2_code
def yX6_table : MethodName := ⟨RX6, "table", "()I"⟩
abbrev cX6_type : ByteArray := prog_1_method_3_code
def yX6_type : MethodName := ⟨RX6, "type", "(IIII)I"⟩
abbrev cX6_lay : ByteArray := prog_1_method_4_code
def yX6_lay : MethodName := ⟨RX6, "lay", "(I)I"⟩
abbrev cX6_glue : ByteArray := prog_1_method_5_code
def yX6_glue : MethodName := ⟨RX6, "glue", "(IIIII)I"⟩
abbrev cX6_shrink : ByteArray := prog_1_method_6_code
def yX6_shrink : MethodName := ⟨RX6, "shrink", "(IIII)I"⟩
abbrev cX6_row : ByteArray := prog_1_method_7_code
def yX6_row : MethodName := ⟨RX6, "row", "(I)I"⟩
abbrev cX6_entry : ByteArray := prog_1_method_8_code
def yX6_entry : MethodName := ⟨RX6, "entry", "(IIIZ)I"⟩
abbrev cX6_nest : ByteArray := prog_1_method_9_code
def yX6_nest : MethodName := ⟨RX6, "nest", "(III)I"⟩
abbrev cX6_end : ByteArray := prog_1_method_10_code
def yX6_end : MethodName := ⟨RX6, "end", "(I)I"⟩
abbrev cX6_between : ByteArray := prog_1_method_11_code
def yX6_between : MethodName := ⟨RX6, "between", "(I)I"⟩
abbrev cX6_run : ByteArray := prog_1_method_12_code
def yX6_run : MethodName := ⟨RX6, "run", "(III)J"⟩
abbrev cX6_width : ByteArray := prog_1_method_13_code
def yX6_width : MethodName := ⟨RX6, "width", "(II)I"⟩
abbrev cX6_isVoid : ByteArray := prog_1_method_14_code
def yX6_isVoid : MethodName := ⟨RX6, "isVoid", "(II)Z"⟩
abbrev cX6_place : ByteArray := prog_1_method_15_code
def yX6_place : MethodName := ⟨RX6, "place", "(II)J"⟩
abbrev cX6_at : ByteArray := prog_1_method_16_code
def yX6_at : MethodName := ⟨RX6, "at", "(IIII)J"⟩
abbrev cX6_item : ByteArray := prog_1_method_17_code
def yX6_item : MethodName := ⟨RX6, "item", "(II)I"⟩
abbrev cX6_count : ByteArray := prog_1_method_18_code
def yX6_count : MethodName := ⟨RX6, "count", "(II)J"⟩
abbrev cX6_find : ByteArray := prog_1_method_19_code
def yX6_find : MethodName := ⟨RX6, "find", "(I)LAlignRows$Table;"⟩
abbrev cX6_isIn : ByteArray := prog_1_method_20_code
def yX6_isIn : MethodName := ⟨RX6, "isIn", "(III)Z"⟩
def RX7 : String := "AlignRowsModel"
def TX7 : u_T := fun k => match k with
  | 0 => ("AlignRowsModel", "fault", "I", false)
  | 1 => ("AlignRowsModel", "tables", "I", false)
  | 2 => ("AlignRowsModel", "tape", "[I", true)
  | 3 => ("AlignRowsModel", "tapeSize", "[I", true)
  | 4 => ("AlignRowsModel", "isLaid", "[Z", true)
  | 5 => ("AlignRowsModel", "templates", "[I", true)
  | 6 => ("AlignRowsModel", "repeats", "[I", true)
  | 7 => ("AlignRowsModel", "before", "[I", true)
  | 8 => ("AlignRowsModel", "behind", "[I", true)
  | 9 => ("AlignRowsModel", "glueWidth", "[I", true)
  | 10 => ("AlignRowsModel", "stretch", "[I", true)
  | 11 => ("AlignRowsModel", "stretchOrder", "[I", true)
  | 12 => ("AlignRowsModel", "shrinks", "[I", true)
  | 13 => ("AlignRowsModel", "shrinkOrder", "[I", true)
  | 14 => ("AlignRowsModel", "rows", "[I", true)
  | 15 => ("AlignRowsModel", "isOpen", "[Z", true)
  | 16 => ("AlignRowsModel", "rowFrom", "[I", true)
  | 17 => ("AlignRowsModel", "rowSize", "[I", true)
  | 18 => ("AlignRowsModel", "entries", "[I", true)
  | 19 => ("AlignRowsModel", "wide", "[I", true)
  | 20 => ("AlignRowsModel", "first", "[I", true)
  | 21 => ("AlignRowsModel", "span", "[I", true)
  | 22 => ("AlignRowsModel", "items", "[I", true)
  | 23 => ("AlignRowsModel", "item", "[I", true)
  | 24 => ("AlignRowsModel", "betweens", "[I", true)
  | 25 => ("AlignRowsModel", "runs", "[I", true)
  | 26 => ("AlignRowsModel", "columns", "[I", true)
  | 27 => ("AlignRowsModel", "widths", "[I", true)
  | 28 => ("AlignRowsModel", "isNothing", "[Z", true)
  | 29 => ("AlignRowsModel", "places", "[J", true)
  | 30 => ("AlignRowsModel", "natural", "[J", true)
  | 31 => ("AlignRowsModel", "set", "[J", true)
  | 32 => ("AlignRowsModel", "order", "[I", true)
  | 33 => ("AlignRowsModel", "missing", "[J", true)
  | 34 => ("AlignRowsModel", "need", "[I", true)
  | 35 => ("AlignRowsModel", "from", "[I", true)
  | 36 => ("AlignRowsModel", "at", "I", false)
  | _ => ("AlignRowsModel", "wrong", "I", false)
def tyX7 : Nat → FieldType := fun k => match k with
  | 0 => .int
  | 1 => .int
  | 2 => .array .int
  | 3 => .array .int
  | 4 => .array .boolean
  | 5 => .array .int
  | 6 => .array .int
  | 7 => .array .int
  | 8 => .array .int
  | 9 => .array .int
  | 10 => .array .int
  | 11 => .array .int
  | 12 => .array .int
  | 13 => .array .int
  | 14 => .array .int
  | 15 => .array .boolean
  | 16 => .array .int
  | 17 => .array .int
  | 18 => .array .int
  | 19 => .array .int
  | 20 => .array .int
  | 21 => .array .int
  | 22 => .array .int
  | 23 => .array .int
  | 24 => .array .int
  | 25 => .array .int
  | 26 => .array .int
  | 27 => .array .int
  | 28 => .array .boolean
  | 29 => .array .long
  | 30 => .array .long
  | 31 => .array .long
  | 32 => .array .int
  | 33 => .array .long
  | 34 => .array .int
  | 35 => .array .int
  | 36 => .int
  | _ => .int
abbrev wsX70 : List Cond := u_ws RX7 TX7 38
theorem nmX7 : ∀ a, a < 38 → ∀ b, b < 38 → a ≠ b → (TX7 a).2.1 ≠ (TX7 b).2.1 := by decide +kernel
theorem tyX7_ok : ∀ k, k < 38 → parseFieldDescriptor (TX7 k).2.2.1 = some (tyX7 k) := by decide +kernel
abbrev cX7_init : ByteArray := prog_9_method_1_code
def yX7_init : MethodName := ⟨RX7, "<init>", "()V"⟩
abbrev cX7_thrown : ByteArray := prog_9_method_2_code
def yX7_thrown : MethodName := ⟨RX7, "thrown", "()I"⟩
abbrev cX7_isTable : ByteArray := prog_9_method_3_code
def yX7_isTable : MethodName := ⟨RX7, "isTable", "(I)Z"⟩
abbrev cX7_in : ByteArray := prog_9_method_4_code
def yX7_in : MethodName := ⟨RX7, "in", "(JJJ)Z"⟩
abbrev cX7_table : ByteArray := prog_9_method_5_code
def yX7_table : MethodName := ⟨RX7, "table", "()I"⟩
abbrev cX7_isLetter : ByteArray := prog_9_method_6_code
def yX7_isLetter : MethodName := ⟨RX7, "isLetter", "(I)Z"⟩
abbrev cX7_byteOf : ByteArray := prog_9_method_7_code
def yX7_byteOf : MethodName := ⟨RX7, "byteOf", "(IIII)I"⟩
abbrev cX7_type : ByteArray := prog_9_method_8_code
def yX7_type : MethodName := ⟨RX7, "type", "(IIII)I"⟩
abbrev cX7_sign : ByteArray := prog_9_method_9_code
def yX7_sign : MethodName := ⟨RX7, "sign", "(I)I"⟩
abbrev cX7_passLetters : ByteArray := prog_9_method_10_code
def yX7_passLetters : MethodName := ⟨RX7, "passLetters", "(I)I"⟩
abbrev cX7_readAll : ByteArray := prog_9_method_11_code
def yX7_readAll : MethodName := ⟨RX7, "readAll", "(I)V"⟩
abbrev cX7_lay : ByteArray := prog_9_method_12_code
def yX7_lay : MethodName := ⟨RX7, "lay", "(I)I"⟩
abbrev cX7_columnsOf : ByteArray := prog_9_method_13_code
def yX7_columnsOf : MethodName := ⟨RX7, "columnsOf", "(I)I"⟩
abbrev cX7_templateOf : ByteArray := prog_9_method_14_code
def yX7_templateOf : MethodName := ⟨RX7, "templateOf", "(II)I"⟩
abbrev cX7_wrongGlue : ByteArray := prog_9_method_15_code
def yX7_wrongGlue : MethodName := ⟨RX7, "wrongGlue", "(II)I"⟩
abbrev cX7_glue : ByteArray := prog_9_method_16_code
def yX7_glue : MethodName := ⟨RX7, "glue", "(IIIII)I"⟩
abbrev cX7_shrink : ByteArray := prog_9_method_17_code
def yX7_shrink : MethodName := ⟨RX7, "shrink", "(IIII)I"⟩
abbrev cX7_stand : ByteArray := prog_9_method_18_code
def yX7_stand : MethodName := ⟨RX7, "stand", "(II)V"⟩
abbrev cX7_row : ByteArray := prog_9_method_19_code
def yX7_row : MethodName := ⟨RX7, "row", "(I)I"⟩
abbrev cX7_free : ByteArray := prog_9_method_20_code
def yX7_free : MethodName := ⟨RX7, "free", "(I)I"⟩
abbrev cX7_add : ByteArray := prog_9_method_21_code
def yX7_add : MethodName := ⟨RX7, "add", "(III)I"⟩
abbrev cX7_entry : ByteArray := prog_9_method_22_code
def yX7_entry : MethodName := ⟨RX7, "entry", "(IIIZ)I"⟩
abbrev cX7_nest : ByteArray := prog_9_method_23_code
def yX7_nest : MethodName := ⟨RX7, "nest", "(III)I"⟩
abbrev cX7_end : ByteArray := prog_9_method_24_code
def yX7_end : MethodName := ⟨RX7, "end", "(I)I"⟩
abbrev cX7_between : ByteArray := prog_9_method_25_code
def yX7_between : MethodName := ⟨RX7, "between", "(I)I"⟩
abbrev cX7_glueBehind : ByteArray := prog_9_method_26_code
def yX7_glueBehind : MethodName := ⟨RX7, "glueBehind", "(II)I"⟩
abbrev cX7_findWidths : ByteArray := prog_9_method_27_code
def yX7_findWidths : MethodName := ⟨RX7, "findWidths", "(I)V"⟩
abbrev cX7_gives : ByteArray := prog_9_method_28_code
def yX7_gives : MethodName := ⟨RX7, "gives", "(IIZI)J"⟩
abbrev cX7_sumOf : ByteArray := prog_9_method_29_code
def yX7_sumOf : MethodName := ⟨RX7, "sumOf", "(IIZI)J"⟩
abbrev cX7_widthOfGlue : ByteArray := prog_9_method_30_code
def yX7_widthOfGlue : MethodName := ⟨RX7, "widthOfGlue", "(II)J"⟩
abbrev cX7_run : ByteArray := prog_9_method_31_code
def yX7_run : MethodName := ⟨RX7, "run", "(III)J"⟩
abbrev cX7_share : ByteArray := prog_9_method_32_code
def yX7_share : MethodName := ⟨RX7, "share", "(I)V"⟩
abbrev cX7_isColumn : ByteArray := prog_9_method_33_code
def yX7_isColumn : MethodName := ⟨RX7, "isColumn", "(II)Z"⟩
abbrev cX7_width : ByteArray := prog_9_method_34_code
def yX7_width : MethodName := ⟨RX7, "width", "(II)I"⟩
abbrev cX7_isVoid : ByteArray := prog_9_method_35_code
def yX7_isVoid : MethodName := ⟨RX7, "isVoid", "(II)Z"⟩
abbrev cX7_place : ByteArray := prog_9_method_36_code
def yX7_place : MethodName := ⟨RX7, "place", "(II)J"⟩
abbrev cX7_at : ByteArray := prog_9_method_37_code
def yX7_at : MethodName := ⟨RX7, "at", "(IIII)J"⟩
abbrev cX7_item : ByteArray := prog_9_method_38_code
def yX7_item : MethodName := ⟨RX7, "item", "(II)I"⟩
abbrev cX7_count : ByteArray := prog_9_method_39_code
def yX7_count : MethodName := ⟨RX7, "count", "(II)J"⟩
def RJx145de : String := "java/io/Serializable"
def TJx145de : u_T := fun k => match k with
  | _ => ("", "", "", false)
def tyJx145de : Nat → FieldType := fun k => match k with
  | _ => .int
abbrev wsJx145de0 : List Cond := u_ws RJx145de TJx145de 0
theorem nmJx145de : ∀ a, a < 0 → ∀ b, b < 0 → a ≠ b → (TJx145de a).2.1 ≠ (TJx145de b).2.1 := by decide +kernel
theorem tyJx145de_ok : ∀ k, k < 0 → parseFieldDescriptor (TJx145de k).2.2.1 = some (tyJx145de k) := by decide +kernel
def RJx00060 : String := "java/lang/ArrayIndexOutOfBoundsException"
def TJx00060 : u_T := fun k => match k with
  | 0 => ("java/lang/Throwable", "backtrace", "Ljava/lang/Object;", false)
  | 1 => ("java/lang/Throwable", "detailMessage", "Ljava/lang/String;", false)
  | 2 => ("java/lang/Throwable", "cause", "Ljava/lang/Throwable;", false)
  | 3 => ("java/lang/Throwable", "stackTrace", "[Ljava/lang/StackTraceElement;", false)
  | 4 => ("java/lang/Throwable", "depth", "I", false)
  | _ => ("java/lang/Throwable", "suppressedExceptions", "Ljava/util/List;", false)
def tyJx00060 : Nat → FieldType := fun k => match k with
  | 0 => .object "java/lang/Object"
  | 1 => .object "java/lang/String"
  | 2 => .object "java/lang/Throwable"
  | 3 => .array (.object "java/lang/StackTraceElement")
  | 4 => .int
  | _ => .object "java/util/List"
abbrev wsJx000600 : List Cond := u_ws RJx00060 TJx00060 6
theorem nmJx00060 : ∀ a, a < 6 → ∀ b, b < 6 → a ≠ b → (TJx00060 a).2.1 ≠ (TJx00060 b).2.1 := by decide +kernel
theorem tyJx00060_ok : ∀ k, k < 6 → parseFieldDescriptor (TJx00060 k).2.2.1 = some (tyJx00060 k) := by decide +kernel
abbrev cJx00060_init_da8c8 : ByteArray := prog_10_method_1_code
def yJx00060_init_da8c8 : MethodName := ⟨RJx00060, "<init>", "()V"⟩
abbrev cJx00060_init_a7421 : ByteArray := prog_10_method_2_code
def yJx00060_init_a7421 : MethodName := ⟨RJx00060, "<init>", "(Ljava/lang/String;)V"⟩
def RJ9 : String := "java/lang/Math"
def TJ9 : u_T := fun k => match k with
  | _ => ("", "", "", false)
def tyJ9 : Nat → FieldType := fun k => match k with
  | _ => .int
abbrev wsJ90 : List Cond := u_ws RJ9 TJ9 0
theorem nmJ9 : ∀ a, a < 0 → ∀ b, b < 0 → a ≠ b → (TJ9 a).2.1 ≠ (TJ9 b).2.1 := by decide +kernel
theorem tyJ9_ok : ∀ k, k < 0 → parseFieldDescriptor (TJ9 k).2.2.1 = some (tyJ9 k) := by decide +kernel
abbrev cJ9_abs_067f4 : ByteArray := prog_13_method_61_code
def yJ9_abs_067f4 : MethodName := ⟨RJ9, "abs", "(J)J"⟩
abbrev cJ9_max_7cf53 : ByteArray := prog_13_method_65_code
def yJ9_max_7cf53 : MethodName := ⟨RJ9, "max", "(II)I"⟩
abbrev cJ9_min_f86c9 : ByteArray := prog_13_method_70_code
def yJ9_min_f86c9 : MethodName := ⟨RJ9, "min", "(JJ)J"⟩
def RJ0 : String := "java/lang/String"
def TJ0 : u_T := fun k => match k with
  | 0 => ("java/lang/String", "value", "[B", true)
  | _ => ("java/lang/String", "coder", "B", true)
def tyJ0 : Nat → FieldType := fun k => match k with
  | 0 => .array .byte
  | _ => .byte
abbrev wsJ00 : List Cond := u_ws RJ0 TJ0 2
theorem nmJ0 : ∀ a, a < 2 → ∀ b, b < 2 → a ≠ b → (TJ0 a).2.1 ≠ (TJ0 b).2.1 := by decide +kernel
theorem tyJ0_ok : ∀ k, k < 2 → parseFieldDescriptor (TJ0 k).2.2.1 = some (tyJ0 k) := by decide +kernel
def RJ7 : String := "java/util/Arrays"
def TJ7 : u_T := fun k => match k with
  | _ => ("", "", "", false)
def tyJ7 : Nat → FieldType := fun k => match k with
  | _ => .int
abbrev wsJ70 : List Cond := u_ws RJ7 TJ7 0
theorem nmJ7 : ∀ a, a < 0 → ∀ b, b < 0 → a ≠ b → (TJ7 a).2.1 ≠ (TJ7 b).2.1 := by decide +kernel
theorem tyJ7_ok : ∀ k, k < 0 → parseFieldDescriptor (TJ7 k).2.2.1 = some (tyJ7 k) := by decide +kernel
abbrev cJ7_fill_53178 : ByteArray := prog_17_method_103_code
def yJ7_fill_53178 : MethodName := ⟨RJ7, "fill", "([II)V"⟩
def RL : String := "AlignRowsLaw"
abbrev cL_place : ByteArray := method_3_code
def yL_place : MethodName := ⟨RL, "place", "(LAlignRows;II[J)I"⟩
abbrev cL_at : ByteArray := method_4_code
def yL_at : MethodName := ⟨RL, "at", "(LAlignRows;IIII[J)I"⟩
abbrev cL_item : ByteArray := method_5_code
def yL_item : MethodName := ⟨RL, "item", "(LAlignRows;II[J)I"⟩
abbrev cL_count : ByteArray := method_6_code
def yL_count : MethodName := ⟨RL, "count", "(LAlignRows;II[J)I"⟩
abbrev cL_law : ByteArray := code
def yL_law : MethodName := ⟨RL, "law", "([I)Z"⟩
abbrev vwCl : List vw_C := [(RJ0, TJ0, 2), (RJx00060, TJx00060, 6), (RX0, TX0, 5), (RX1, TX1, 13), (RX2, TX2, 1), (RX3, TX3, 8), (RX4, TX4, 5), (RX5, TX5, 9), (RX6, TX6, 2), (RX7, TX7, 38)]
/-! ===== END printed: names ===== -/
end
section
/-! the words, by their places in lw_tbl (by program, wip/whole/words.py) -/
def wsA : List Cond := lw_tbl.filter goodWord
theorem wsA_k {w : Cond} (i : Nat) (h : lw_tbl[i]? = some w) (g : goodWord w = true) : w ∈ wsA := List.mem_filter.mpr ⟨List.mem_of_getElem? h, g⟩
theorem wsA_r (ws : List Cond) (ps : List Nat) (hp : ws = ps.filterMap (fun i => lw_tbl[i]?)) (h : ws.all goodWord = true) : ∀ w ∈ ws, w ∈ wsA := by
  intro w hw
  have h1 := List.all_eq_true.mp h w hw
  rw [hp] at hw
  obtain ⟨i, -, hi⟩ := List.mem_filterMap.mp hw
  exact wsA_k i hi h1
theorem wsA_G {ws : List Cond} (h : ∀ w ∈ ws, w ∈ wsA) : GoodIn wsA ws := fun w hw => ⟨h w hw, good_of_word (List.mem_filter.mp (h w hw)).2⟩
theorem wsA_tbl : ∀ w ∈ wsA, w ∈ lw_tbl := fun _ h => (List.mem_filter.mp h).1
theorem k_0 : (Cond.selects RX6 yX6_find yX6_find) ∈ wsA := wsA_k 0 (by decide +kernel) (by decide +kernel)
theorem k_1 : (Cond.selects RX3 yX3_putSigns yX3_putSigns) ∈ wsA := wsA_k 1 (by decide +kernel) (by decide +kernel)
theorem k_2 : (Cond.selects RX3 yX3_findWrongPlace yX3_findWrongPlace) ∈ wsA := wsA_k 2 (by decide +kernel) (by decide +kernel)
theorem k_3 : (Cond.selects RX3 yX3_takeSign yX3_takeSign) ∈ wsA := wsA_k 3 (by decide +kernel) (by decide +kernel)
theorem k_4 : (Cond.selects RX3 yX3_beginTemplate yX3_beginTemplate) ∈ wsA := wsA_k 4 (by decide +kernel) (by decide +kernel)
theorem k_5 : (Cond.selects RX3 yX3_beginRepeat yX3_beginRepeat) ∈ wsA := wsA_k 5 (by decide +kernel) (by decide +kernel)
theorem k_6 : (Cond.selects RX5 yX5_putItem yX5_putItem) ∈ wsA := wsA_k 6 (by decide +kernel) (by decide +kernel)
theorem k_7 : (Cond.selects RX1 yX1_gatherNeeds yX1_gatherNeeds) ∈ wsA := wsA_k 7 (by decide +kernel) (by decide +kernel)
theorem k_8 : (Cond.selects RX1 yX1_findWidths yX1_findWidths) ∈ wsA := wsA_k 8 (by decide +kernel) (by decide +kernel)
theorem k_9 : (Cond.selects RX1 yX1_naturalWidth yX1_naturalWidth) ∈ wsA := wsA_k 9 (by decide +kernel) (by decide +kernel)
theorem k_10 : (Cond.selects RX1 yX1_gatherGives yX1_gatherGives) ∈ wsA := wsA_k 10 (by decide +kernel) (by decide +kernel)
theorem k_11 : (Cond.selects RX1 yX1_greatestOrder yX1_greatestOrder) ∈ wsA := wsA_k 11 (by decide +kernel) (by decide +kernel)
theorem k_12 : (Cond.selects RX1 yX1_share yX1_share) ∈ wsA := wsA_k 12 (by decide +kernel) (by decide +kernel)
theorem k_13 : (Cond.selects RX1 yX1_wholeSum yX1_wholeSum) ∈ wsA := wsA_k 13 (by decide +kernel) (by decide +kernel)
theorem k_14 : (Cond.selects RX1 yX1_giveOf yX1_giveOf) ∈ wsA := wsA_k 14 (by decide +kernel) (by decide +kernel)
theorem k_15 : (Cond.selects RX1 yX1_findPlaces yX1_findPlaces) ∈ wsA := wsA_k 15 (by decide +kernel) (by decide +kernel)
theorem k_17 : (Cond.selects RX7 yX7_isTable yX7_isTable) ∈ wsA := wsA_k 17 (by decide +kernel) (by decide +kernel)
theorem k_18 : (Cond.selects RX7 yX7_readAll yX7_readAll) ∈ wsA := wsA_k 18 (by decide +kernel) (by decide +kernel)
theorem k_19 : (Cond.selects RX7 yX7_sign yX7_sign) ∈ wsA := wsA_k 19 (by decide +kernel) (by decide +kernel)
theorem k_20 : (Cond.selects RX7 yX7_passLetters yX7_passLetters) ∈ wsA := wsA_k 20 (by decide +kernel) (by decide +kernel)
theorem k_21 : (Cond.selects RX7 yX7_wrongGlue yX7_wrongGlue) ∈ wsA := wsA_k 21 (by decide +kernel) (by decide +kernel)
theorem k_22 : (Cond.selects RX7 yX7_stand yX7_stand) ∈ wsA := wsA_k 22 (by decide +kernel) (by decide +kernel)
theorem k_23 : (Cond.selects RX7 yX7_free yX7_free) ∈ wsA := wsA_k 23 (by decide +kernel) (by decide +kernel)
theorem k_24 : (Cond.selects RX7 yX7_columnsOf yX7_columnsOf) ∈ wsA := wsA_k 24 (by decide +kernel) (by decide +kernel)
theorem k_25 : (Cond.selects RX7 yX7_templateOf yX7_templateOf) ∈ wsA := wsA_k 25 (by decide +kernel) (by decide +kernel)
theorem k_26 : (Cond.selects RX7 yX7_add yX7_add) ∈ wsA := wsA_k 26 (by decide +kernel) (by decide +kernel)
theorem k_27 : (Cond.selects RX7 yX7_findWidths yX7_findWidths) ∈ wsA := wsA_k 27 (by decide +kernel) (by decide +kernel)
theorem k_28 : (Cond.selects RX7 yX7_glueBehind yX7_glueBehind) ∈ wsA := wsA_k 28 (by decide +kernel) (by decide +kernel)
theorem k_29 : (Cond.selects RX7 yX7_widthOfGlue yX7_widthOfGlue) ∈ wsA := wsA_k 29 (by decide +kernel) (by decide +kernel)
theorem k_30 : (Cond.selects RX7 yX7_share yX7_share) ∈ wsA := wsA_k 30 (by decide +kernel) (by decide +kernel)
theorem k_31 : (Cond.selects RX7 yX7_sumOf yX7_sumOf) ∈ wsA := wsA_k 31 (by decide +kernel) (by decide +kernel)
theorem k_32 : (Cond.selects RX7 yX7_gives yX7_gives) ∈ wsA := wsA_k 32 (by decide +kernel) (by decide +kernel)
theorem k_33 : (Cond.selects RX7 yX7_isColumn yX7_isColumn) ∈ wsA := wsA_k 33 (by decide +kernel) (by decide +kernel)
theorem k_34 : (Cond.initialized RL) ∈ wsA := wsA_k 34 (by decide +kernel) (by decide +kernel)
theorem k_35 : (Cond.initialized RX6) ∈ wsA := wsA_k 35 (by decide +kernel) (by decide +kernel)
theorem k_36 : (Cond.initialized RX7) ∈ wsA := wsA_k 36 (by decide +kernel) (by decide +kernel)
theorem k_37 : (Cond.initialized RX5) ∈ wsA := wsA_k 37 (by decide +kernel) (by decide +kernel)
theorem k_38 : (Cond.initialized RX3) ∈ wsA := wsA_k 38 (by decide +kernel) (by decide +kernel)
theorem k_39 : (Cond.initialized RX1) ∈ wsA := wsA_k 39 (by decide +kernel) (by decide +kernel)
theorem k_40 : (Cond.initialized RX2) ∈ wsA := wsA_k 40 (by decide +kernel) (by decide +kernel)
theorem k_41 : (Cond.initialized RX0) ∈ wsA := wsA_k 41 (by decide +kernel) (by decide +kernel)
theorem k_42 : (Cond.initialized RX4) ∈ wsA := wsA_k 42 (by decide +kernel) (by decide +kernel)
theorem k_43 : (Cond.initialized RJ7) ∈ wsA := wsA_k 43 (by decide +kernel) (by decide +kernel)
theorem k_44 : (Cond.initialized RJ9) ∈ wsA := wsA_k 44 (by decide +kernel) (by decide +kernel)
theorem k_45 : (Cond.initialized "java/lang/Throwable") ∈ wsA := wsA_k 45 (by decide +kernel) (by decide +kernel)
theorem k_46 : (Cond.initialized "java/lang/Exception") ∈ wsA := wsA_k 46 (by decide +kernel) (by decide +kernel)
theorem k_47 : (Cond.initialized "java/lang/RuntimeException") ∈ wsA := wsA_k 47 (by decide +kernel) (by decide +kernel)
theorem k_48 : (Cond.initialized "java/lang/IndexOutOfBoundsException") ∈ wsA := wsA_k 48 (by decide +kernel) (by decide +kernel)
theorem k_49 : (Cond.initialized RJx00060) ∈ wsA := wsA_k 49 (by decide +kernel) (by decide +kernel)
theorem k_50 : (Cond.initialized RJ0) ∈ wsA := wsA_k 50 (by decide +kernel) (by decide +kernel)
theorem k_51 : (Cond.classLink RL 8 RX6) ∈ wsA := wsA_k 51 (by decide +kernel) (by decide +kernel)
theorem k_52 : (Cond.instantiable RX6 2) ∈ wsA := wsA_k 52 (by decide +kernel) (by decide +kernel)
theorem k_53 : (Cond.methodLink RL 26 yX6_init) ∈ wsA := wsA_k 53 (by decide +kernel) (by decide +kernel)
theorem k_54 : (Cond.instanceMethod yX6_init) ∈ wsA := wsA_k 54 (by decide +kernel) (by decide +kernel)
theorem k_55 : (Cond.code yX6_init cX6_init 1 none) ∈ wsA := wsA_k 55 (by decide +kernel) (by decide +kernel)
theorem k_56 : (Cond.methodLink RX6 1 objectInit) ∈ wsA := wsA_k 56 (by decide +kernel) (by decide +kernel)
theorem k_57 : (Cond.instanceMethod objectInit) ∈ wsA := wsA_k 57 (by decide +kernel) (by decide +kernel)
theorem k_58 : (Cond.code objectInit ⟨#[0xb1]⟩ 1 none) ∈ wsA := wsA_k 58 (by decide +kernel) (by decide +kernel)
theorem k_59 : (Cond.classLink RX6 9 RX5) ∈ wsA := wsA_k 59 (by decide +kernel) (by decide +kernel)
theorem k_61 : (Cond.fieldLink RX6 11 "AlignRows" "tables" "[LAlignRows$Table;") ∈ wsA := wsA_k 61 (by decide +kernel) (by decide +kernel)
theorem k_62 : (Cond.fieldLink RX6 15 "AlignRows" "tableCount" "I") ∈ wsA := wsA_k 62 (by decide +kernel) (by decide +kernel)
theorem k_68 : (Cond.methodLink RL 30 yX6_table) ∈ wsA := wsA_k 68 (by decide +kernel) (by decide +kernel)
theorem k_69 : (Cond.instanceMethod yX6_table) ∈ wsA := wsA_k 69 (by decide +kernel) (by decide +kernel)
theorem k_70 : (Cond.selects RX6 yX6_table yX6_table) ∈ wsA := wsA_k 70 (by decide +kernel) (by decide +kernel)
theorem k_71 : (Cond.code yX6_table cX6_table 1 (some .int)) ∈ wsA := wsA_k 71 (by decide +kernel) (by decide +kernel)
theorem k_72 : (Cond.instantiable RX5 9) ∈ wsA := wsA_k 72 (by decide +kernel) (by decide +kernel)
theorem k_73 : (Cond.methodLink RX6 19 yX5_init) ∈ wsA := wsA_k 73 (by decide +kernel) (by decide +kernel)
theorem k_74 : (Cond.instanceMethod yX5_init) ∈ wsA := wsA_k 74 (by decide +kernel) (by decide +kernel)
theorem k_75 : (Cond.code yX5_init cX5_init 2 none) ∈ wsA := wsA_k 75 (by decide +kernel) (by decide +kernel)
theorem k_76 : (Cond.methodLink RX5 3 objectInit) ∈ wsA := wsA_k 76 (by decide +kernel) (by decide +kernel)
theorem k_77 : (Cond.classLink RX5 9 RX3) ∈ wsA := wsA_k 77 (by decide +kernel) (by decide +kernel)
theorem k_78 : (Cond.instantiable RX3 8) ∈ wsA := wsA_k 78 (by decide +kernel) (by decide +kernel)
theorem k_80 : (Cond.instanceMethod yX3_init) ∈ wsA := wsA_k 80 (by decide +kernel) (by decide +kernel)
theorem k_81 : (Cond.code yX3_init cX3_init 1 none) ∈ wsA := wsA_k 81 (by decide +kernel) (by decide +kernel)
theorem k_82 : (Cond.methodLink RX3 3 objectInit) ∈ wsA := wsA_k 82 (by decide +kernel) (by decide +kernel)
theorem k_83 : (Cond.fieldLink RX3 9 "AlignRows$Preamble" "tape" "[C") ∈ wsA := wsA_k 83 (by decide +kernel) (by decide +kernel)
theorem k_84 : (Cond.fieldLink RX3 15 "AlignRows$Preamble" "before" "[I") ∈ wsA := wsA_k 84 (by decide +kernel) (by decide +kernel)
theorem k_85 : (Cond.fieldLink RX3 19 "AlignRows$Preamble" "behind" "[I") ∈ wsA := wsA_k 85 (by decide +kernel) (by decide +kernel)
theorem k_86 : (Cond.fieldLink RX3 22 "AlignRows$Preamble" "length" "I") ∈ wsA := wsA_k 86 (by decide +kernel) (by decide +kernel)
theorem k_88 : (Cond.fieldLink RX3 26 "AlignRows$Preamble" "laid" "Z") ∈ wsA := wsA_k 88 (by decide +kernel) (by decide +kernel)
theorem k_90 : (Cond.fieldLink RX3 30 "AlignRows$Preamble" "templates" "I") ∈ wsA := wsA_k 90 (by decide +kernel) (by decide +kernel)
theorem k_93 : (Cond.fieldLink RX3 33 "AlignRows$Preamble" "repeatFrom" "I") ∈ wsA := wsA_k 93 (by decide +kernel) (by decide +kernel)
theorem k_95 : (Cond.fieldLink RX3 36 "AlignRows$Preamble" "marked" "Z") ∈ wsA := wsA_k 95 (by decide +kernel) (by decide +kernel)
theorem k_113 : (Cond.arrayClass .char) ∈ wsA := wsA_k 113 (by decide +kernel) (by decide +kernel)
theorem k_114 : (Cond.arrayClass .int) ∈ wsA := wsA_k 114 (by decide +kernel) (by decide +kernel)
theorem k_115 : (Cond.classLink RX5 18 RX0) ∈ wsA := wsA_k 115 (by decide +kernel) (by decide +kernel)
theorem k_117 : (Cond.classLink RX5 24 RX4) ∈ wsA := wsA_k 117 (by decide +kernel) (by decide +kernel)
theorem k_119 : (Cond.classLink RX5 34 RX1) ∈ wsA := wsA_k 119 (by decide +kernel) (by decide +kernel)
theorem k_120 : (Cond.instantiable RX1 13) ∈ wsA := wsA_k 120 (by decide +kernel) (by decide +kernel)
theorem k_122 : (Cond.instanceMethod yX1_init) ∈ wsA := wsA_k 122 (by decide +kernel) (by decide +kernel)
theorem k_123 : (Cond.code yX1_init cX1_init 1 none) ∈ wsA := wsA_k 123 (by decide +kernel) (by decide +kernel)
theorem k_124 : (Cond.methodLink RX1 3 objectInit) ∈ wsA := wsA_k 124 (by decide +kernel) (by decide +kernel)
theorem k_125 : (Cond.classLink RX1 32 RX2) ∈ wsA := wsA_k 125 (by decide +kernel) (by decide +kernel)
theorem k_126 : (Cond.instantiable RX2 1) ∈ wsA := wsA_k 126 (by decide +kernel) (by decide +kernel)
theorem k_128 : (Cond.instanceMethod yX2_init) ∈ wsA := wsA_k 128 (by decide +kernel) (by decide +kernel)
theorem k_129 : (Cond.code yX2_init cX2_init 1 none) ∈ wsA := wsA_k 129 (by decide +kernel) (by decide +kernel)
theorem k_130 : (Cond.methodLink RX2 3 objectInit) ∈ wsA := wsA_k 130 (by decide +kernel) (by decide +kernel)
theorem k_131 : (Cond.classLink RX2 9 "[[I") ∈ wsA := wsA_k 131 (by decide +kernel) (by decide +kernel)
theorem k_133 : (Cond.fieldLink RX2 11 "AlignRows$Needs" "greatest" "[[I") ∈ wsA := wsA_k 133 (by decide +kernel) (by decide +kernel)
theorem k_137 : (Cond.arrayClass .boolean) ∈ wsA := wsA_k 137 (by decide +kernel) (by decide +kernel)
theorem k_138 : (Cond.arrayClass .long) ∈ wsA := wsA_k 138 (by decide +kernel) (by decide +kernel)
theorem k_139 : (Cond.fieldLink RX1 9 "AlignRows$LastRun" "widths" "[I") ∈ wsA := wsA_k 139 (by decide +kernel) (by decide +kernel)
theorem k_141 : (Cond.fieldLink RX1 15 "AlignRows$LastRun" "voids" "[Z") ∈ wsA := wsA_k 141 (by decide +kernel) (by decide +kernel)
theorem k_143 : (Cond.fieldLink RX1 19 "AlignRows$LastRun" "places" "[J") ∈ wsA := wsA_k 143 (by decide +kernel) (by decide +kernel)
theorem k_145 : (Cond.fieldLink RX1 23 "AlignRows$LastRun" "glueWidths" "[I") ∈ wsA := wsA_k 145 (by decide +kernel) (by decide +kernel)
theorem k_146 : (Cond.fieldLink RX1 26 "AlignRows$LastRun" "gives" "[I") ∈ wsA := wsA_k 146 (by decide +kernel) (by decide +kernel)
theorem k_147 : (Cond.fieldLink RX1 29 "AlignRows$LastRun" "giveOrders" "[I") ∈ wsA := wsA_k 147 (by decide +kernel) (by decide +kernel)
theorem k_148 : (Cond.fieldLink RX1 35 "AlignRows$LastRun" "needs" "LAlignRows$Needs;") ∈ wsA := wsA_k 148 (by decide +kernel) (by decide +kernel)
theorem k_149 : (Cond.fieldLink RX1 39 "AlignRows$LastRun" "runs" "I") ∈ wsA := wsA_k 149 (by decide +kernel) (by decide +kernel)
theorem k_150 : (Cond.fieldLink RX1 43 "AlignRows$LastRun" "columns" "I") ∈ wsA := wsA_k 150 (by decide +kernel) (by decide +kernel)
theorem k_151 : (Cond.fieldLink RX1 46 "AlignRows$LastRun" "natural" "J") ∈ wsA := wsA_k 151 (by decide +kernel) (by decide +kernel)
theorem k_152 : (Cond.fieldLink RX1 50 "AlignRows$LastRun" "excess" "J") ∈ wsA := wsA_k 152 (by decide +kernel) (by decide +kernel)
theorem k_153 : (Cond.fieldLink RX1 53 "AlignRows$LastRun" "order" "I") ∈ wsA := wsA_k 153 (by decide +kernel) (by decide +kernel)
theorem k_154 : (Cond.fieldLink RX1 56 "AlignRows$LastRun" "missing" "J") ∈ wsA := wsA_k 154 (by decide +kernel) (by decide +kernel)
theorem k_182 : (Cond.instantiable RX0 5) ∈ wsA := wsA_k 182 (by decide +kernel) (by decide +kernel)
theorem k_184 : (Cond.instanceMethod yX0_init) ∈ wsA := wsA_k 184 (by decide +kernel) (by decide +kernel)
theorem k_185 : (Cond.code yX0_init cX0_init 1 none) ∈ wsA := wsA_k 185 (by decide +kernel) (by decide +kernel)
theorem k_186 : (Cond.methodLink RX0 1 objectInit) ∈ wsA := wsA_k 186 (by decide +kernel) (by decide +kernel)
theorem k_187 : (Cond.fieldLink RX0 7 "AlignRows$Glue" "width" "I") ∈ wsA := wsA_k 187 (by decide +kernel) (by decide +kernel)
theorem k_189 : (Cond.fieldLink RX0 13 "AlignRows$Glue" "stretch" "I") ∈ wsA := wsA_k 189 (by decide +kernel) (by decide +kernel)
theorem k_191 : (Cond.fieldLink RX0 16 "AlignRows$Glue" "stretchOrder" "I") ∈ wsA := wsA_k 191 (by decide +kernel) (by decide +kernel)
theorem k_193 : (Cond.fieldLink RX0 19 "AlignRows$Glue" "shrink" "I") ∈ wsA := wsA_k 193 (by decide +kernel) (by decide +kernel)
theorem k_195 : (Cond.fieldLink RX0 22 "AlignRows$Glue" "shrinkOrder" "I") ∈ wsA := wsA_k 195 (by decide +kernel) (by decide +kernel)
theorem k_208 : (Cond.instantiable RX4 5) ∈ wsA := wsA_k 208 (by decide +kernel) (by decide +kernel)
theorem k_210 : (Cond.instanceMethod yX4_init) ∈ wsA := wsA_k 210 (by decide +kernel) (by decide +kernel)
theorem k_211 : (Cond.code yX4_init cX4_init 1 none) ∈ wsA := wsA_k 211 (by decide +kernel) (by decide +kernel)
theorem k_212 : (Cond.methodLink RX4 3 objectInit) ∈ wsA := wsA_k 212 (by decide +kernel) (by decide +kernel)
theorem k_213 : (Cond.fieldLink RX4 9 "AlignRows$Row" "widths" "[I") ∈ wsA := wsA_k 213 (by decide +kernel) (by decide +kernel)
theorem k_216 : (Cond.fieldLink RX4 15 "AlignRows$Row" "firsts" "[I") ∈ wsA := wsA_k 216 (by decide +kernel) (by decide +kernel)
theorem k_219 : (Cond.fieldLink RX4 18 "AlignRows$Row" "spans" "[I") ∈ wsA := wsA_k 219 (by decide +kernel) (by decide +kernel)
theorem k_222 : (Cond.fieldLink RX4 21 "AlignRows$Row" "entries" "I") ∈ wsA := wsA_k 222 (by decide +kernel) (by decide +kernel)
theorem k_225 : (Cond.fieldLink RX4 25 "AlignRows$Row" "columns" "I") ∈ wsA := wsA_k 225 (by decide +kernel) (by decide +kernel)
theorem k_239 : (Cond.fieldLink RX5 12 "AlignRows$Table" "preamble" "LAlignRows$Preamble;") ∈ wsA := wsA_k 239 (by decide +kernel) (by decide +kernel)
theorem k_242 : (Cond.fieldLink RX5 20 "AlignRows$Table" "glues" "[LAlignRows$Glue;") ∈ wsA := wsA_k 242 (by decide +kernel) (by decide +kernel)
theorem k_244 : (Cond.fieldLink RX5 26 "AlignRows$Table" "rows" "[LAlignRows$Row;") ∈ wsA := wsA_k 244 (by decide +kernel) (by decide +kernel)
theorem k_247 : (Cond.fieldLink RX5 30 "AlignRows$Table" "items" "[I") ∈ wsA := wsA_k 247 (by decide +kernel) (by decide +kernel)
theorem k_249 : (Cond.fieldLink RX5 37 "AlignRows$Table" "lastRun" "LAlignRows$LastRun;") ∈ wsA := wsA_k 249 (by decide +kernel) (by decide +kernel)
theorem k_251 : (Cond.fieldLink RX5 41 "AlignRows$Table" "rowCount" "I") ∈ wsA := wsA_k 251 (by decide +kernel) (by decide +kernel)
theorem k_253 : (Cond.fieldLink RX5 45 "AlignRows$Table" "betweenCount" "I") ∈ wsA := wsA_k 253 (by decide +kernel) (by decide +kernel)
theorem k_254 : (Cond.fieldLink RX5 48 "AlignRows$Table" "itemCount" "I") ∈ wsA := wsA_k 254 (by decide +kernel) (by decide +kernel)
theorem k_256 : (Cond.fieldLink RX5 51 "AlignRows$Table" "open" "Z") ∈ wsA := wsA_k 256 (by decide +kernel) (by decide +kernel)
theorem k_277 : (Cond.methodLink RL 35 yX6_type) ∈ wsA := wsA_k 277 (by decide +kernel) (by decide +kernel)
theorem k_278 : (Cond.instanceMethod yX6_type) ∈ wsA := wsA_k 278 (by decide +kernel) (by decide +kernel)
theorem k_279 : (Cond.selects RX6 yX6_type yX6_type) ∈ wsA := wsA_k 279 (by decide +kernel) (by decide +kernel)
theorem k_280 : (Cond.code yX6_type cX6_type 6 (some .int)) ∈ wsA := wsA_k 280 (by decide +kernel) (by decide +kernel)
theorem k_281 : (Cond.methodLink RX6 20 yX6_find) ∈ wsA := wsA_k 281 (by decide +kernel) (by decide +kernel)
theorem k_283 : (Cond.instanceMethod yX6_find) ∈ wsA := wsA_k 283 (by decide +kernel) (by decide +kernel)
theorem k_284 : (Cond.code yX6_find cX6_find 2 (some (.object "AlignRows$Table"))) ∈ wsA := wsA_k 284 (by decide +kernel) (by decide +kernel)
theorem k_285 : (Cond.methodLink RX6 42 yX6_isIn) ∈ wsA := wsA_k 285 (by decide +kernel) (by decide +kernel)
theorem k_286 : (Cond.static yX6_isIn) ∈ wsA := wsA_k 286 (by decide +kernel) (by decide +kernel)
theorem k_287 : (Cond.code yX6_isIn cX6_isIn 3 (some .boolean)) ∈ wsA := wsA_k 287 (by decide +kernel) (by decide +kernel)
theorem k_288 : (Cond.methodLink RX6 28 yX3_append) ∈ wsA := wsA_k 288 (by decide +kernel) (by decide +kernel)
theorem k_289 : (Cond.instanceMethod yX3_append) ∈ wsA := wsA_k 289 (by decide +kernel) (by decide +kernel)
theorem k_290 : (Cond.selects RX3 yX3_append yX3_append) ∈ wsA := wsA_k 290 (by decide +kernel) (by decide +kernel)
theorem k_291 : (Cond.code yX3_append cX3_append 4 (some .int)) ∈ wsA := wsA_k 291 (by decide +kernel) (by decide +kernel)
theorem k_292 : (Cond.methodLink RX3 39 yX3_hasOnlySigns) ∈ wsA := wsA_k 292 (by decide +kernel) (by decide +kernel)
theorem k_293 : (Cond.static yX3_hasOnlySigns) ∈ wsA := wsA_k 293 (by decide +kernel) (by decide +kernel)
theorem k_294 : (Cond.code yX3_hasOnlySigns cX3_hasOnlySigns 3 (some .boolean)) ∈ wsA := wsA_k 294 (by decide +kernel) (by decide +kernel)
theorem k_295 : (Cond.methodLink RX3 51 yX3_byteOf) ∈ wsA := wsA_k 295 (by decide +kernel) (by decide +kernel)
theorem k_296 : (Cond.static yX3_byteOf) ∈ wsA := wsA_k 296 (by decide +kernel) (by decide +kernel)
theorem k_297 : (Cond.code yX3_byteOf cX3_byteOf 2 (some .int)) ∈ wsA := wsA_k 297 (by decide +kernel) (by decide +kernel)
theorem k_299 : (Cond.methodLink RX3 43 yX3_signsOf) ∈ wsA := wsA_k 299 (by decide +kernel) (by decide +kernel)
theorem k_300 : (Cond.static yX3_signsOf) ∈ wsA := wsA_k 300 (by decide +kernel) (by decide +kernel)
theorem k_301 : (Cond.code yX3_signsOf cX3_signsOf 3 (some .int)) ∈ wsA := wsA_k 301 (by decide +kernel) (by decide +kernel)
theorem k_302 : (Cond.methodLink RX3 47 yX3_putSigns) ∈ wsA := wsA_k 302 (by decide +kernel) (by decide +kernel)
theorem k_304 : (Cond.instanceMethod yX3_putSigns) ∈ wsA := wsA_k 304 (by decide +kernel) (by decide +kernel)
theorem k_305 : (Cond.code yX3_putSigns cX3_putSigns 4 none) ∈ wsA := wsA_k 305 (by decide +kernel) (by decide +kernel)
theorem k_306 : (Cond.methodLink RL 40 yX6_lay) ∈ wsA := wsA_k 306 (by decide +kernel) (by decide +kernel)
theorem k_307 : (Cond.instanceMethod yX6_lay) ∈ wsA := wsA_k 307 (by decide +kernel) (by decide +kernel)
theorem k_308 : (Cond.selects RX6 yX6_lay yX6_lay) ∈ wsA := wsA_k 308 (by decide +kernel) (by decide +kernel)
theorem k_309 : (Cond.code yX6_lay cX6_lay 3 (some .int)) ∈ wsA := wsA_k 309 (by decide +kernel) (by decide +kernel)
theorem k_310 : (Cond.methodLink RX6 34 yX3_readTape) ∈ wsA := wsA_k 310 (by decide +kernel) (by decide +kernel)
theorem k_311 : (Cond.instanceMethod yX3_readTape) ∈ wsA := wsA_k 311 (by decide +kernel) (by decide +kernel)
theorem k_312 : (Cond.selects RX3 yX3_readTape yX3_readTape) ∈ wsA := wsA_k 312 (by decide +kernel) (by decide +kernel)
theorem k_313 : (Cond.code yX3_readTape cX3_readTape 2 (some .int)) ∈ wsA := wsA_k 313 (by decide +kernel) (by decide +kernel)
theorem k_314 : (Cond.methodLink RX3 59 yX3_findWrongPlace) ∈ wsA := wsA_k 314 (by decide +kernel) (by decide +kernel)
theorem k_316 : (Cond.instanceMethod yX3_findWrongPlace) ∈ wsA := wsA_k 316 (by decide +kernel) (by decide +kernel)
theorem k_317 : (Cond.code yX3_findWrongPlace cX3_findWrongPlace 2 (some .int)) ∈ wsA := wsA_k 317 (by decide +kernel) (by decide +kernel)
theorem k_318 : (Cond.methodLink RX3 63 yJ7_fill_53178) ∈ wsA := wsA_k 318 (by decide +kernel) (by decide +kernel)
theorem k_319 : (Cond.static yJ7_fill_53178) ∈ wsA := wsA_k 319 (by decide +kernel) (by decide +kernel)
theorem k_320 : (Cond.code yJ7_fill_53178 cJ7_fill_53178 4 none) ∈ wsA := wsA_k 320 (by decide +kernel) (by decide +kernel)
theorem k_321 : (Cond.methodLink RX3 69 yX3_takeSign) ∈ wsA := wsA_k 321 (by decide +kernel) (by decide +kernel)
theorem k_323 : (Cond.instanceMethod yX3_takeSign) ∈ wsA := wsA_k 323 (by decide +kernel) (by decide +kernel)
theorem k_324 : (Cond.code yX3_takeSign cX3_takeSign 4 (some .boolean)) ∈ wsA := wsA_k 324 (by decide +kernel) (by decide +kernel)
theorem k_325 : (Cond.methodLink RX3 72 yX3_beginTemplate) ∈ wsA := wsA_k 325 (by decide +kernel) (by decide +kernel)
theorem k_327 : (Cond.instanceMethod yX3_beginTemplate) ∈ wsA := wsA_k 327 (by decide +kernel) (by decide +kernel)
theorem k_328 : (Cond.code yX3_beginTemplate cX3_beginTemplate 1 (some .boolean)) ∈ wsA := wsA_k 328 (by decide +kernel) (by decide +kernel)
theorem k_329 : (Cond.methodLink RX3 76 yX3_beginRepeat) ∈ wsA := wsA_k 329 (by decide +kernel) (by decide +kernel)
theorem k_331 : (Cond.instanceMethod yX3_beginRepeat) ∈ wsA := wsA_k 331 (by decide +kernel) (by decide +kernel)
theorem k_332 : (Cond.code yX3_beginRepeat cX3_beginRepeat 2 (some .boolean)) ∈ wsA := wsA_k 332 (by decide +kernel) (by decide +kernel)
theorem k_333 : (Cond.methodLink RL 45 yX6_glue) ∈ wsA := wsA_k 333 (by decide +kernel) (by decide +kernel)
theorem k_334 : (Cond.instanceMethod yX6_glue) ∈ wsA := wsA_k 334 (by decide +kernel) (by decide +kernel)
theorem k_335 : (Cond.selects RX6 yX6_glue yX6_glue) ∈ wsA := wsA_k 335 (by decide +kernel) (by decide +kernel)
theorem k_336 : (Cond.code yX6_glue cX6_glue 8 (some .int)) ∈ wsA := wsA_k 336 (by decide +kernel) (by decide +kernel)
theorem k_337 : (Cond.methodLink RX6 38 yX5_refuseGlue) ∈ wsA := wsA_k 337 (by decide +kernel) (by decide +kernel)
theorem k_338 : (Cond.instanceMethod yX5_refuseGlue) ∈ wsA := wsA_k 338 (by decide +kernel) (by decide +kernel)
theorem k_339 : (Cond.selects RX5 yX5_refuseGlue yX5_refuseGlue) ∈ wsA := wsA_k 339 (by decide +kernel) (by decide +kernel)
theorem k_340 : (Cond.code yX5_refuseGlue cX5_refuseGlue 2 (some .int)) ∈ wsA := wsA_k 340 (by decide +kernel) (by decide +kernel)
theorem k_342 : (Cond.methodLink RX6 50 yX0_setStretch) ∈ wsA := wsA_k 342 (by decide +kernel) (by decide +kernel)
theorem k_343 : (Cond.instanceMethod yX0_setStretch) ∈ wsA := wsA_k 343 (by decide +kernel) (by decide +kernel)
theorem k_344 : (Cond.selects RX0 yX0_setStretch yX0_setStretch) ∈ wsA := wsA_k 344 (by decide +kernel) (by decide +kernel)
theorem k_345 : (Cond.code yX0_setStretch cX0_setStretch 4 none) ∈ wsA := wsA_k 345 (by decide +kernel) (by decide +kernel)
theorem k_346 : (Cond.methodLink RL 50 yX6_shrink) ∈ wsA := wsA_k 346 (by decide +kernel) (by decide +kernel)
theorem k_347 : (Cond.instanceMethod yX6_shrink) ∈ wsA := wsA_k 347 (by decide +kernel) (by decide +kernel)
theorem k_348 : (Cond.selects RX6 yX6_shrink yX6_shrink) ∈ wsA := wsA_k 348 (by decide +kernel) (by decide +kernel)
theorem k_349 : (Cond.code yX6_shrink cX6_shrink 7 (some .int)) ∈ wsA := wsA_k 349 (by decide +kernel) (by decide +kernel)
theorem k_350 : (Cond.methodLink RX6 56 yX0_setShrink) ∈ wsA := wsA_k 350 (by decide +kernel) (by decide +kernel)
theorem k_351 : (Cond.instanceMethod yX0_setShrink) ∈ wsA := wsA_k 351 (by decide +kernel) (by decide +kernel)
theorem k_352 : (Cond.selects RX0 yX0_setShrink yX0_setShrink) ∈ wsA := wsA_k 352 (by decide +kernel) (by decide +kernel)
theorem k_353 : (Cond.code yX0_setShrink cX0_setShrink 3 none) ∈ wsA := wsA_k 353 (by decide +kernel) (by decide +kernel)
theorem k_354 : (Cond.methodLink RL 54 yX6_row) ∈ wsA := wsA_k 354 (by decide +kernel) (by decide +kernel)
theorem k_355 : (Cond.instanceMethod yX6_row) ∈ wsA := wsA_k 355 (by decide +kernel) (by decide +kernel)
theorem k_356 : (Cond.selects RX6 yX6_row yX6_row) ∈ wsA := wsA_k 356 (by decide +kernel) (by decide +kernel)
theorem k_357 : (Cond.code yX6_row cX6_row 3 (some .int)) ∈ wsA := wsA_k 357 (by decide +kernel) (by decide +kernel)
theorem k_358 : (Cond.methodLink RX6 60 yX5_openRow) ∈ wsA := wsA_k 358 (by decide +kernel) (by decide +kernel)
theorem k_359 : (Cond.instanceMethod yX5_openRow) ∈ wsA := wsA_k 359 (by decide +kernel) (by decide +kernel)
theorem k_360 : (Cond.selects RX5 yX5_openRow yX5_openRow) ∈ wsA := wsA_k 360 (by decide +kernel) (by decide +kernel)
theorem k_361 : (Cond.code yX5_openRow cX5_openRow 1 (some .int)) ∈ wsA := wsA_k 361 (by decide +kernel) (by decide +kernel)
theorem k_362 : (Cond.methodLink RX5 67 yX5_isAtRest) ∈ wsA := wsA_k 362 (by decide +kernel) (by decide +kernel)
theorem k_363 : (Cond.instanceMethod yX5_isAtRest) ∈ wsA := wsA_k 363 (by decide +kernel) (by decide +kernel)
theorem k_364 : (Cond.selects RX5 yX5_isAtRest yX5_isAtRest) ∈ wsA := wsA_k 364 (by decide +kernel) (by decide +kernel)
theorem k_365 : (Cond.code yX5_isAtRest cX5_isAtRest 1 (some .boolean)) ∈ wsA := wsA_k 365 (by decide +kernel) (by decide +kernel)
theorem k_366 : (Cond.methodLink RX5 71 yX5_putItem) ∈ wsA := wsA_k 366 (by decide +kernel) (by decide +kernel)
theorem k_368 : (Cond.instanceMethod yX5_putItem) ∈ wsA := wsA_k 368 (by decide +kernel) (by decide +kernel)
theorem k_369 : (Cond.code yX5_putItem cX5_putItem 2 none) ∈ wsA := wsA_k 369 (by decide +kernel) (by decide +kernel)
theorem k_370 : (Cond.methodLink RL 58 yX6_entry) ∈ wsA := wsA_k 370 (by decide +kernel) (by decide +kernel)
theorem k_371 : (Cond.instanceMethod yX6_entry) ∈ wsA := wsA_k 371 (by decide +kernel) (by decide +kernel)
theorem k_372 : (Cond.selects RX6 yX6_entry yX6_entry) ∈ wsA := wsA_k 372 (by decide +kernel) (by decide +kernel)
theorem k_373 : (Cond.code yX6_entry cX6_entry 6 (some .int)) ∈ wsA := wsA_k 373 (by decide +kernel) (by decide +kernel)
theorem k_374 : (Cond.constant RX6 67 (100000)) ∈ wsA := wsA_k 374 (by decide +kernel) (by decide +kernel)
theorem k_375 : (Cond.methodLink RX6 68 yX5_addEntry) ∈ wsA := wsA_k 375 (by decide +kernel) (by decide +kernel)
theorem k_376 : (Cond.instanceMethod yX5_addEntry) ∈ wsA := wsA_k 376 (by decide +kernel) (by decide +kernel)
theorem k_377 : (Cond.selects RX5 yX5_addEntry yX5_addEntry) ∈ wsA := wsA_k 377 (by decide +kernel) (by decide +kernel)
theorem k_378 : (Cond.code yX5_addEntry cX5_addEntry 7 (some .int)) ∈ wsA := wsA_k 378 (by decide +kernel) (by decide +kernel)
theorem k_379 : (Cond.methodLink RX5 81 yX3_columnLimit) ∈ wsA := wsA_k 379 (by decide +kernel) (by decide +kernel)
theorem k_380 : (Cond.instanceMethod yX3_columnLimit) ∈ wsA := wsA_k 380 (by decide +kernel) (by decide +kernel)
theorem k_381 : (Cond.selects RX3 yX3_columnLimit yX3_columnLimit) ∈ wsA := wsA_k 381 (by decide +kernel) (by decide +kernel)
theorem k_382 : (Cond.code yX3_columnLimit cX3_columnLimit 1 (some .int)) ∈ wsA := wsA_k 382 (by decide +kernel) (by decide +kernel)
theorem k_383 : (Cond.methodLink RX5 85 yX3_textOf) ∈ wsA := wsA_k 383 (by decide +kernel) (by decide +kernel)
theorem k_384 : (Cond.instanceMethod yX3_textOf) ∈ wsA := wsA_k 384 (by decide +kernel) (by decide +kernel)
theorem k_385 : (Cond.selects RX3 yX3_textOf yX3_textOf) ∈ wsA := wsA_k 385 (by decide +kernel) (by decide +kernel)
theorem k_386 : (Cond.code yX3_textOf cX3_textOf 3 (some .int)) ∈ wsA := wsA_k 386 (by decide +kernel) (by decide +kernel)
theorem k_387 : (Cond.methodLink RX3 79 yX3_templateOf) ∈ wsA := wsA_k 387 (by decide +kernel) (by decide +kernel)
theorem k_388 : (Cond.instanceMethod yX3_templateOf) ∈ wsA := wsA_k 388 (by decide +kernel) (by decide +kernel)
theorem k_389 : (Cond.selects RX3 yX3_templateOf yX3_templateOf) ∈ wsA := wsA_k 389 (by decide +kernel) (by decide +kernel)
theorem k_390 : (Cond.code yX3_templateOf cX3_templateOf 3 (some .int)) ∈ wsA := wsA_k 390 (by decide +kernel) (by decide +kernel)
theorem k_391 : (Cond.methodLink RX5 89 yX4_append) ∈ wsA := wsA_k 391 (by decide +kernel) (by decide +kernel)
theorem k_392 : (Cond.instanceMethod yX4_append) ∈ wsA := wsA_k 392 (by decide +kernel) (by decide +kernel)
theorem k_393 : (Cond.selects RX4 yX4_append yX4_append) ∈ wsA := wsA_k 393 (by decide +kernel) (by decide +kernel)
theorem k_394 : (Cond.code yX4_append cX4_append 3 none) ∈ wsA := wsA_k 394 (by decide +kernel) (by decide +kernel)
theorem k_395 : (Cond.methodLink RL 63 yX6_nest) ∈ wsA := wsA_k 395 (by decide +kernel) (by decide +kernel)
theorem k_396 : (Cond.instanceMethod yX6_nest) ∈ wsA := wsA_k 396 (by decide +kernel) (by decide +kernel)
theorem k_397 : (Cond.selects RX6 yX6_nest yX6_nest) ∈ wsA := wsA_k 397 (by decide +kernel) (by decide +kernel)
theorem k_398 : (Cond.code yX6_nest cX6_nest 6 (some .int)) ∈ wsA := wsA_k 398 (by decide +kernel) (by decide +kernel)
theorem k_399 : (Cond.methodLink RX6 76 yX1_isNestable) ∈ wsA := wsA_k 399 (by decide +kernel) (by decide +kernel)
theorem k_400 : (Cond.instanceMethod yX1_isNestable) ∈ wsA := wsA_k 400 (by decide +kernel) (by decide +kernel)
theorem k_401 : (Cond.selects RX1 yX1_isNestable yX1_isNestable) ∈ wsA := wsA_k 401 (by decide +kernel) (by decide +kernel)
theorem k_402 : (Cond.code yX1_isNestable cX1_isNestable 1 (some .boolean)) ∈ wsA := wsA_k 402 (by decide +kernel) (by decide +kernel)
theorem k_403 : (Cond.methodLink RX1 80 yX1_setWidth) ∈ wsA := wsA_k 403 (by decide +kernel) (by decide +kernel)
theorem k_404 : (Cond.instanceMethod yX1_setWidth) ∈ wsA := wsA_k 404 (by decide +kernel) (by decide +kernel)
theorem k_405 : (Cond.selects RX1 yX1_setWidth yX1_setWidth) ∈ wsA := wsA_k 405 (by decide +kernel) (by decide +kernel)
theorem k_406 : (Cond.code yX1_setWidth cX1_setWidth 1 (some .long)) ∈ wsA := wsA_k 406 (by decide +kernel) (by decide +kernel)
theorem k_407 : (Cond.constantLong RX1 175 (100000)) ∈ wsA := wsA_k 407 (by decide +kernel) (by decide +kernel)
theorem k_408 : (Cond.methodLink RX6 82 yX1_setWidth) ∈ wsA := wsA_k 408 (by decide +kernel) (by decide +kernel)
theorem k_409 : (Cond.methodLink RL 68 yX6_end) ∈ wsA := wsA_k 409 (by decide +kernel) (by decide +kernel)
theorem k_410 : (Cond.instanceMethod yX6_end) ∈ wsA := wsA_k 410 (by decide +kernel) (by decide +kernel)
theorem k_411 : (Cond.selects RX6 yX6_end yX6_end) ∈ wsA := wsA_k 411 (by decide +kernel) (by decide +kernel)
theorem k_412 : (Cond.code yX6_end cX6_end 3 (some .int)) ∈ wsA := wsA_k 412 (by decide +kernel) (by decide +kernel)
theorem k_413 : (Cond.methodLink RX6 86 yX5_closeRow) ∈ wsA := wsA_k 413 (by decide +kernel) (by decide +kernel)
theorem k_414 : (Cond.instanceMethod yX5_closeRow) ∈ wsA := wsA_k 414 (by decide +kernel) (by decide +kernel)
theorem k_415 : (Cond.selects RX5 yX5_closeRow yX5_closeRow) ∈ wsA := wsA_k 415 (by decide +kernel) (by decide +kernel)
theorem k_416 : (Cond.code yX5_closeRow cX5_closeRow 1 (some .int)) ∈ wsA := wsA_k 416 (by decide +kernel) (by decide +kernel)
theorem k_417 : (Cond.methodLink RL 72 yX6_between) ∈ wsA := wsA_k 417 (by decide +kernel) (by decide +kernel)
theorem k_418 : (Cond.instanceMethod yX6_between) ∈ wsA := wsA_k 418 (by decide +kernel) (by decide +kernel)
theorem k_419 : (Cond.selects RX6 yX6_between yX6_between) ∈ wsA := wsA_k 419 (by decide +kernel) (by decide +kernel)
theorem k_420 : (Cond.code yX6_between cX6_between 3 (some .int)) ∈ wsA := wsA_k 420 (by decide +kernel) (by decide +kernel)
theorem k_421 : (Cond.methodLink RX6 89 yX5_addBetween) ∈ wsA := wsA_k 421 (by decide +kernel) (by decide +kernel)
theorem k_422 : (Cond.instanceMethod yX5_addBetween) ∈ wsA := wsA_k 422 (by decide +kernel) (by decide +kernel)
theorem k_423 : (Cond.selects RX5 yX5_addBetween yX5_addBetween) ∈ wsA := wsA_k 423 (by decide +kernel) (by decide +kernel)
theorem k_424 : (Cond.code yX5_addBetween cX5_addBetween 1 (some .int)) ∈ wsA := wsA_k 424 (by decide +kernel) (by decide +kernel)
theorem k_425 : (Cond.methodLink RL 76 yX6_run) ∈ wsA := wsA_k 425 (by decide +kernel) (by decide +kernel)
theorem k_426 : (Cond.instanceMethod yX6_run) ∈ wsA := wsA_k 426 (by decide +kernel) (by decide +kernel)
theorem k_427 : (Cond.selects RX6 yX6_run yX6_run) ∈ wsA := wsA_k 427 (by decide +kernel) (by decide +kernel)
theorem k_428 : (Cond.code yX6_run cX6_run 5 (some .long)) ∈ wsA := wsA_k 428 (by decide +kernel) (by decide +kernel)
theorem k_429 : (Cond.constantLong RX6 92 (-1)) ∈ wsA := wsA_k 429 (by decide +kernel) (by decide +kernel)
theorem k_430 : (Cond.methodLink RX6 94 yX5_isAtRest) ∈ wsA := wsA_k 430 (by decide +kernel) (by decide +kernel)
theorem k_431 : (Cond.constantLong RX6 97 (-3)) ∈ wsA := wsA_k 431 (by decide +kernel) (by decide +kernel)
theorem k_432 : (Cond.constant RX6 99 (-1000000)) ∈ wsA := wsA_k 432 (by decide +kernel) (by decide +kernel)
theorem k_433 : (Cond.constant RX6 100 (1000000)) ∈ wsA := wsA_k 433 (by decide +kernel) (by decide +kernel)
theorem k_434 : (Cond.constantLong RX6 101 (-2)) ∈ wsA := wsA_k 434 (by decide +kernel) (by decide +kernel)
theorem k_435 : (Cond.methodLink RX6 103 yX1_setTable) ∈ wsA := wsA_k 435 (by decide +kernel) (by decide +kernel)
theorem k_436 : (Cond.instanceMethod yX1_setTable) ∈ wsA := wsA_k 436 (by decide +kernel) (by decide +kernel)
theorem k_437 : (Cond.selects RX1 yX1_setTable yX1_setTable) ∈ wsA := wsA_k 437 (by decide +kernel) (by decide +kernel)
theorem k_438 : (Cond.code yX1_setTable cX1_setTable 4 (some .long)) ∈ wsA := wsA_k 438 (by decide +kernel) (by decide +kernel)
theorem k_439 : (Cond.methodLink RX1 59 yX1_gatherNeeds) ∈ wsA := wsA_k 439 (by decide +kernel) (by decide +kernel)
theorem k_441 : (Cond.instanceMethod yX1_gatherNeeds) ∈ wsA := wsA_k 441 (by decide +kernel) (by decide +kernel)
theorem k_442 : (Cond.code yX1_gatherNeeds cX1_gatherNeeds 5 none) ∈ wsA := wsA_k 442 (by decide +kernel) (by decide +kernel)
theorem k_443 : (Cond.methodLink RX1 83 yX2_clear) ∈ wsA := wsA_k 443 (by decide +kernel) (by decide +kernel)
theorem k_444 : (Cond.instanceMethod yX2_clear) ∈ wsA := wsA_k 444 (by decide +kernel) (by decide +kernel)
theorem k_445 : (Cond.selects RX2 yX2_clear yX2_clear) ∈ wsA := wsA_k 445 (by decide +kernel) (by decide +kernel)
theorem k_446 : (Cond.code yX2_clear cX2_clear 2 none) ∈ wsA := wsA_k 446 (by decide +kernel) (by decide +kernel)
theorem k_447 : (Cond.methodLink RX2 16 yJ7_fill_53178) ∈ wsA := wsA_k 447 (by decide +kernel) (by decide +kernel)
theorem k_448 : (Cond.methodLink RX1 107 yJ9_max_7cf53) ∈ wsA := wsA_k 448 (by decide +kernel) (by decide +kernel)
theorem k_449 : (Cond.static yJ9_max_7cf53) ∈ wsA := wsA_k 449 (by decide +kernel) (by decide +kernel)
theorem k_450 : (Cond.code yJ9_max_7cf53 cJ9_max_7cf53 2 (some .int)) ∈ wsA := wsA_k 450 (by decide +kernel) (by decide +kernel)
theorem k_451 : (Cond.methodLink RX1 123 yX2_add) ∈ wsA := wsA_k 451 (by decide +kernel) (by decide +kernel)
theorem k_452 : (Cond.instanceMethod yX2_add) ∈ wsA := wsA_k 452 (by decide +kernel) (by decide +kernel)
theorem k_453 : (Cond.selects RX2 yX2_add yX2_add) ∈ wsA := wsA_k 453 (by decide +kernel) (by decide +kernel)
theorem k_454 : (Cond.code yX2_add cX2_add 4 none) ∈ wsA := wsA_k 454 (by decide +kernel) (by decide +kernel)
theorem k_455 : (Cond.methodLink RX2 22 yJ9_max_7cf53) ∈ wsA := wsA_k 455 (by decide +kernel) (by decide +kernel)
theorem k_456 : (Cond.methodLink RX1 63 yX1_findWidths) ∈ wsA := wsA_k 456 (by decide +kernel) (by decide +kernel)
theorem k_458 : (Cond.instanceMethod yX1_findWidths) ∈ wsA := wsA_k 458 (by decide +kernel) (by decide +kernel)
theorem k_459 : (Cond.code yX1_findWidths cX1_findWidths 4 none) ∈ wsA := wsA_k 459 (by decide +kernel) (by decide +kernel)
theorem k_460 : (Cond.methodLink RX1 127 yX5_glueAt) ∈ wsA := wsA_k 460 (by decide +kernel) (by decide +kernel)
theorem k_461 : (Cond.instanceMethod yX5_glueAt) ∈ wsA := wsA_k 461 (by decide +kernel) (by decide +kernel)
theorem k_462 : (Cond.selects RX5 yX5_glueAt yX5_glueAt) ∈ wsA := wsA_k 462 (by decide +kernel) (by decide +kernel)
theorem k_463 : (Cond.code yX5_glueAt cX5_glueAt 2 (some (.object "AlignRows$Glue"))) ∈ wsA := wsA_k 463 (by decide +kernel) (by decide +kernel)
theorem k_464 : (Cond.methodLink RX5 93 yX3_templateOf) ∈ wsA := wsA_k 464 (by decide +kernel) (by decide +kernel)
theorem k_465 : (Cond.methodLink RX1 136 yX2_over) ∈ wsA := wsA_k 465 (by decide +kernel) (by decide +kernel)
theorem k_466 : (Cond.instanceMethod yX2_over) ∈ wsA := wsA_k 466 (by decide +kernel) (by decide +kernel)
theorem k_467 : (Cond.selects RX2 yX2_over yX2_over) ∈ wsA := wsA_k 467 (by decide +kernel) (by decide +kernel)
theorem k_468 : (Cond.code yX2_over cX2_over 2 (some .int)) ∈ wsA := wsA_k 468 (by decide +kernel) (by decide +kernel)
theorem k_469 : (Cond.methodLink RX1 140 yX2_moveOn) ∈ wsA := wsA_k 469 (by decide +kernel) (by decide +kernel)
theorem k_470 : (Cond.instanceMethod yX2_moveOn) ∈ wsA := wsA_k 470 (by decide +kernel) (by decide +kernel)
theorem k_471 : (Cond.selects RX2 yX2_moveOn yX2_moveOn) ∈ wsA := wsA_k 471 (by decide +kernel) (by decide +kernel)
theorem k_472 : (Cond.code yX2_moveOn cX2_moveOn 5 none) ∈ wsA := wsA_k 472 (by decide +kernel) (by decide +kernel)
theorem k_473 : (Cond.methodLink RX2 28 yX2_add) ∈ wsA := wsA_k 473 (by decide +kernel) (by decide +kernel)
theorem k_474 : (Cond.methodLink RX1 66 yX1_naturalWidth) ∈ wsA := wsA_k 474 (by decide +kernel) (by decide +kernel)
theorem k_476 : (Cond.instanceMethod yX1_naturalWidth) ∈ wsA := wsA_k 476 (by decide +kernel) (by decide +kernel)
theorem k_477 : (Cond.code yX1_naturalWidth cX1_naturalWidth 4 (some .long)) ∈ wsA := wsA_k 477 (by decide +kernel) (by decide +kernel)
theorem k_478 : (Cond.methodLink RX1 70 yX1_gatherGives) ∈ wsA := wsA_k 478 (by decide +kernel) (by decide +kernel)
theorem k_480 : (Cond.instanceMethod yX1_gatherGives) ∈ wsA := wsA_k 480 (by decide +kernel) (by decide +kernel)
theorem k_481 : (Cond.code yX1_gatherGives cX1_gatherGives 5 none) ∈ wsA := wsA_k 481 (by decide +kernel) (by decide +kernel)
theorem k_482 : (Cond.methodLink RX1 73 yX1_greatestOrder) ∈ wsA := wsA_k 482 (by decide +kernel) (by decide +kernel)
theorem k_484 : (Cond.instanceMethod yX1_greatestOrder) ∈ wsA := wsA_k 484 (by decide +kernel) (by decide +kernel)
theorem k_485 : (Cond.code yX1_greatestOrder cX1_greatestOrder 3 (some .int)) ∈ wsA := wsA_k 485 (by decide +kernel) (by decide +kernel)
theorem k_486 : (Cond.methodLink RX1 77 yX1_share) ∈ wsA := wsA_k 486 (by decide +kernel) (by decide +kernel)
theorem k_488 : (Cond.instanceMethod yX1_share) ∈ wsA := wsA_k 488 (by decide +kernel) (by decide +kernel)
theorem k_489 : (Cond.code yX1_share cX1_share 7 none) ∈ wsA := wsA_k 489 (by decide +kernel) (by decide +kernel)
theorem k_490 : (Cond.methodLink RX1 160 yX1_wholeSum) ∈ wsA := wsA_k 490 (by decide +kernel) (by decide +kernel)
theorem k_492 : (Cond.instanceMethod yX1_wholeSum) ∈ wsA := wsA_k 492 (by decide +kernel) (by decide +kernel)
theorem k_493 : (Cond.code yX1_wholeSum cX1_wholeSum 4 (some .long)) ∈ wsA := wsA_k 493 (by decide +kernel) (by decide +kernel)
theorem k_494 : (Cond.methodLink RX1 156 yX1_giveOf) ∈ wsA := wsA_k 494 (by decide +kernel) (by decide +kernel)
theorem k_496 : (Cond.instanceMethod yX1_giveOf) ∈ wsA := wsA_k 496 (by decide +kernel) (by decide +kernel)
theorem k_497 : (Cond.code yX1_giveOf cX1_giveOf 2 (some .long)) ∈ wsA := wsA_k 497 (by decide +kernel) (by decide +kernel)
theorem k_498 : (Cond.methodLink RX1 163 yJ9_abs_067f4) ∈ wsA := wsA_k 498 (by decide +kernel) (by decide +kernel)
theorem k_499 : (Cond.static yJ9_abs_067f4) ∈ wsA := wsA_k 499 (by decide +kernel) (by decide +kernel)
theorem k_500 : (Cond.code yJ9_abs_067f4 cJ9_abs_067f4 2 (some .long)) ∈ wsA := wsA_k 500 (by decide +kernel) (by decide +kernel)
theorem k_501 : (Cond.methodLink RX1 167 yJ9_min_f86c9) ∈ wsA := wsA_k 501 (by decide +kernel) (by decide +kernel)
theorem k_502 : (Cond.static yJ9_min_f86c9) ∈ wsA := wsA_k 502 (by decide +kernel) (by decide +kernel)
theorem k_503 : (Cond.code yJ9_min_f86c9 cJ9_min_f86c9 4 (some .long)) ∈ wsA := wsA_k 503 (by decide +kernel) (by decide +kernel)
theorem k_504 : (Cond.methodLink RX1 171 yX1_findPlaces) ∈ wsA := wsA_k 504 (by decide +kernel) (by decide +kernel)
theorem k_506 : (Cond.instanceMethod yX1_findPlaces) ∈ wsA := wsA_k 506 (by decide +kernel) (by decide +kernel)
theorem k_507 : (Cond.code yX1_findPlaces cX1_findPlaces 12 none) ∈ wsA := wsA_k 507 (by decide +kernel) (by decide +kernel)
theorem k_508 : (Cond.methodLink RL 81 yX6_width) ∈ wsA := wsA_k 508 (by decide +kernel) (by decide +kernel)
theorem k_509 : (Cond.instanceMethod yX6_width) ∈ wsA := wsA_k 509 (by decide +kernel) (by decide +kernel)
theorem k_510 : (Cond.selects RX6 yX6_width yX6_width) ∈ wsA := wsA_k 510 (by decide +kernel) (by decide +kernel)
theorem k_511 : (Cond.code yX6_width cX6_width 4 (some .int)) ∈ wsA := wsA_k 511 (by decide +kernel) (by decide +kernel)
theorem k_512 : (Cond.methodLink RX6 107 yX1_hasColumn) ∈ wsA := wsA_k 512 (by decide +kernel) (by decide +kernel)
theorem k_513 : (Cond.instanceMethod yX1_hasColumn) ∈ wsA := wsA_k 513 (by decide +kernel) (by decide +kernel)
theorem k_514 : (Cond.selects RX1 yX1_hasColumn yX1_hasColumn) ∈ wsA := wsA_k 514 (by decide +kernel) (by decide +kernel)
theorem k_515 : (Cond.code yX1_hasColumn cX1_hasColumn 2 (some .boolean)) ∈ wsA := wsA_k 515 (by decide +kernel) (by decide +kernel)
theorem k_517 : (Cond.methodLink RL 85 yX6_isVoid) ∈ wsA := wsA_k 517 (by decide +kernel) (by decide +kernel)
theorem k_518 : (Cond.instanceMethod yX6_isVoid) ∈ wsA := wsA_k 518 (by decide +kernel) (by decide +kernel)
theorem k_519 : (Cond.selects RX6 yX6_isVoid yX6_isVoid) ∈ wsA := wsA_k 519 (by decide +kernel) (by decide +kernel)
theorem k_520 : (Cond.code yX6_isVoid cX6_isVoid 4 (some .boolean)) ∈ wsA := wsA_k 520 (by decide +kernel) (by decide +kernel)
theorem k_521 : (Cond.methodLink RL 90 yL_place) ∈ wsA := wsA_k 521 (by decide +kernel) (by decide +kernel)
theorem k_522 : (Cond.static yL_place) ∈ wsA := wsA_k 522 (by decide +kernel) (by decide +kernel)
theorem k_523 : (Cond.codeWith yL_place cL_place 5 (some .int) [(0, 9, 12, 13)]) ∈ wsA := wsA_k 523 (by decide +kernel) (by decide +kernel)
theorem k_524 : (Cond.classLink RL 13 RJx00060) ∈ wsA := wsA_k 524 (by decide +kernel) (by decide +kernel)
theorem k_525 : (Cond.instantiable RJx00060 6) ∈ wsA := wsA_k 525 (by decide +kernel) (by decide +kernel)
theorem k_526 : (Cond.instanceMethod yJx00060_init_a7421) ∈ wsA := wsA_k 526 (by decide +kernel) (by decide +kernel)
theorem k_527 : (Cond.code yJx00060_init_a7421 cJx00060_init_a7421 2 none) ∈ wsA := wsA_k 527 (by decide +kernel) (by decide +kernel)
theorem k_540 : (Cond.methodLink "java/lang/Throwable" 1 objectInit) ∈ wsA := wsA_k 540 (by decide +kernel) (by decide +kernel)
theorem k_541 : (Cond.fieldLink "java/lang/Throwable" 13 "java/lang/Throwable" "UNASSIGNED_STACK" "[Ljava/lang/StackTraceElement;") ∈ wsA := wsA_k 541 (by decide +kernel) (by decide +kernel)
theorem k_543 : (Cond.fieldLink "java/lang/Throwable" 20 "java/lang/Throwable" "SUPPRESSED_SENTINEL" "Ljava/util/List;") ∈ wsA := wsA_k 543 (by decide +kernel) (by decide +kernel)
theorem k_553 : (Cond.instantiable "java/lang/Throwable" 6) ∈ wsA := wsA_k 553 (by decide +kernel) (by decide +kernel)
theorem k_555 : (Cond.fieldLink "java/lang/Throwable" 198 "java/lang/Throwable" "backtrace" "Ljava/lang/Object;") ∈ wsA := wsA_k 555 (by decide +kernel) (by decide +kernel)
theorem k_556 : (Cond.fieldLink "java/lang/Throwable" 31 "java/lang/Throwable" "detailMessage" "Ljava/lang/String;") ∈ wsA := wsA_k 556 (by decide +kernel) (by decide +kernel)
theorem k_557 : (Cond.fieldLink "java/lang/Throwable" 7 "java/lang/Throwable" "cause" "Ljava/lang/Throwable;") ∈ wsA := wsA_k 557 (by decide +kernel) (by decide +kernel)
theorem k_558 : (Cond.fieldLink "java/lang/Throwable" 17 "java/lang/Throwable" "stackTrace" "[Ljava/lang/StackTraceElement;") ∈ wsA := wsA_k 558 (by decide +kernel) (by decide +kernel)
theorem k_559 : (Cond.fieldLink "java/lang/Throwable" 24 "java/lang/Throwable" "suppressedExceptions" "Ljava/util/List;") ∈ wsA := wsA_k 559 (by decide +kernel) (by decide +kernel)
theorem k_588 : (Cond.fieldLink "java/lang/Throwable" 198 "java/lang/Throwable" "backtrace" "Ljava/lang/Object;") ∈ wsA := wsA_k 588 (by decide +kernel) (by decide +kernel)
theorem k_592 : (Cond.instantiable RJ0 4) ∈ wsA := wsA_k 592 (by decide +kernel) (by decide +kernel)
theorem k_593 : (Cond.arrayClass .byte) ∈ wsA := wsA_k 593 (by decide +kernel) (by decide +kernel)
theorem k_598 : (Cond.methodLink RL 7 yX6_place) ∈ wsA := wsA_k 598 (by decide +kernel) (by decide +kernel)
theorem k_599 : (Cond.instanceMethod yX6_place) ∈ wsA := wsA_k 599 (by decide +kernel) (by decide +kernel)
theorem k_600 : (Cond.selects RX6 yX6_place yX6_place) ∈ wsA := wsA_k 600 (by decide +kernel) (by decide +kernel)
theorem k_601 : (Cond.code yX6_place cX6_place 4 (some .long)) ∈ wsA := wsA_k 601 (by decide +kernel) (by decide +kernel)
theorem k_602 : (Cond.classLink RX6 119 RJx00060) ∈ wsA := wsA_k 602 (by decide +kernel) (by decide +kernel)
theorem k_603 : (Cond.methodLink RX6 121 yJx00060_init_da8c8) ∈ wsA := wsA_k 603 (by decide +kernel) (by decide +kernel)
theorem k_604 : (Cond.instanceMethod yJx00060_init_da8c8) ∈ wsA := wsA_k 604 (by decide +kernel) (by decide +kernel)
theorem k_605 : (Cond.code yJx00060_init_da8c8 cJx00060_init_da8c8 1 none) ∈ wsA := wsA_k 605 (by decide +kernel) (by decide +kernel)
theorem k_616 : (Cond.methodLink RL 99 yL_at) ∈ wsA := wsA_k 616 (by decide +kernel) (by decide +kernel)
theorem k_617 : (Cond.static yL_at) ∈ wsA := wsA_k 617 (by decide +kernel) (by decide +kernel)
theorem k_618 : (Cond.codeWith yL_at cL_at 7 (some .int) [(0, 13, 16, 13)]) ∈ wsA := wsA_k 618 (by decide +kernel) (by decide +kernel)
theorem k_619 : (Cond.methodLink RL 15 yX6_at) ∈ wsA := wsA_k 619 (by decide +kernel) (by decide +kernel)
theorem k_620 : (Cond.instanceMethod yX6_at) ∈ wsA := wsA_k 620 (by decide +kernel) (by decide +kernel)
theorem k_621 : (Cond.selects RX6 yX6_at yX6_at) ∈ wsA := wsA_k 621 (by decide +kernel) (by decide +kernel)
theorem k_622 : (Cond.code yX6_at cX6_at 7 (some .long)) ∈ wsA := wsA_k 622 (by decide +kernel) (by decide +kernel)
theorem k_623 : (Cond.methodLink RX6 126 yX5_hasEntry) ∈ wsA := wsA_k 623 (by decide +kernel) (by decide +kernel)
theorem k_624 : (Cond.instanceMethod yX5_hasEntry) ∈ wsA := wsA_k 624 (by decide +kernel) (by decide +kernel)
theorem k_625 : (Cond.selects RX5 yX5_hasEntry yX5_hasEntry) ∈ wsA := wsA_k 625 (by decide +kernel) (by decide +kernel)
theorem k_626 : (Cond.code yX5_hasEntry cX5_hasEntry 3 (some .boolean)) ∈ wsA := wsA_k 626 (by decide +kernel) (by decide +kernel)
theorem k_627 : (Cond.methodLink RX6 143 yX1_boxPlace) ∈ wsA := wsA_k 627 (by decide +kernel) (by decide +kernel)
theorem k_628 : (Cond.instanceMethod yX1_boxPlace) ∈ wsA := wsA_k 628 (by decide +kernel) (by decide +kernel)
theorem k_629 : (Cond.selects RX1 yX1_boxPlace yX1_boxPlace) ∈ wsA := wsA_k 629 (by decide +kernel) (by decide +kernel)
theorem k_630 : (Cond.code yX1_boxPlace cX1_boxPlace 3 (some .long)) ∈ wsA := wsA_k 630 (by decide +kernel) (by decide +kernel)
theorem k_631 : (Cond.methodLink RX1 181 yX1_hasColumn) ∈ wsA := wsA_k 631 (by decide +kernel) (by decide +kernel)
theorem k_632 : (Cond.methodLink RX6 147 yX1_boxWidth) ∈ wsA := wsA_k 632 (by decide +kernel) (by decide +kernel)
theorem k_633 : (Cond.instanceMethod yX1_boxWidth) ∈ wsA := wsA_k 633 (by decide +kernel) (by decide +kernel)
theorem k_634 : (Cond.selects RX1 yX1_boxWidth yX1_boxWidth) ∈ wsA := wsA_k 634 (by decide +kernel) (by decide +kernel)
theorem k_635 : (Cond.code yX1_boxWidth cX1_boxWidth 4 (some .long)) ∈ wsA := wsA_k 635 (by decide +kernel) (by decide +kernel)
theorem k_636 : (Cond.methodLink RL 103 yL_item) ∈ wsA := wsA_k 636 (by decide +kernel) (by decide +kernel)
theorem k_637 : (Cond.static yL_item) ∈ wsA := wsA_k 637 (by decide +kernel) (by decide +kernel)
theorem k_638 : (Cond.codeWith yL_item cL_item 5 (some .int) [(0, 10, 13, 13)]) ∈ wsA := wsA_k 638 (by decide +kernel) (by decide +kernel)
theorem k_639 : (Cond.methodLink RL 19 yX6_item) ∈ wsA := wsA_k 639 (by decide +kernel) (by decide +kernel)
theorem k_640 : (Cond.instanceMethod yX6_item) ∈ wsA := wsA_k 640 (by decide +kernel) (by decide +kernel)
theorem k_641 : (Cond.selects RX6 yX6_item yX6_item) ∈ wsA := wsA_k 641 (by decide +kernel) (by decide +kernel)
theorem k_642 : (Cond.code yX6_item cX6_item 4 (some .int)) ∈ wsA := wsA_k 642 (by decide +kernel) (by decide +kernel)
theorem k_643 : (Cond.methodLink RL 106 yL_count) ∈ wsA := wsA_k 643 (by decide +kernel) (by decide +kernel)
theorem k_644 : (Cond.static yL_count) ∈ wsA := wsA_k 644 (by decide +kernel) (by decide +kernel)
theorem k_645 : (Cond.codeWith yL_count cL_count 5 (some .int) [(0, 9, 12, 13)]) ∈ wsA := wsA_k 645 (by decide +kernel) (by decide +kernel)
theorem k_646 : (Cond.methodLink RL 23 yX6_count) ∈ wsA := wsA_k 646 (by decide +kernel) (by decide +kernel)
theorem k_647 : (Cond.instanceMethod yX6_count) ∈ wsA := wsA_k 647 (by decide +kernel) (by decide +kernel)
theorem k_648 : (Cond.selects RX6 yX6_count yX6_count) ∈ wsA := wsA_k 648 (by decide +kernel) (by decide +kernel)
theorem k_649 : (Cond.code yX6_count cX6_count 4 (some .long)) ∈ wsA := wsA_k 649 (by decide +kernel) (by decide +kernel)
theorem k_650 : (Cond.methodLink RX6 156 yX5_tell) ∈ wsA := wsA_k 650 (by decide +kernel) (by decide +kernel)
theorem k_651 : (Cond.instanceMethod yX5_tell) ∈ wsA := wsA_k 651 (by decide +kernel) (by decide +kernel)
theorem k_652 : (Cond.selects RX5 yX5_tell yX5_tell) ∈ wsA := wsA_k 652 (by decide +kernel) (by decide +kernel)
theorem k_653 : (Cond.code yX5_tell cX5_tell 2 (some .long)) ∈ wsA := wsA_k 653 (by decide +kernel) (by decide +kernel)
theorem k_654 : (Cond.methodLink RX5 100 yX5_entriesOfAll) ∈ wsA := wsA_k 654 (by decide +kernel) (by decide +kernel)
theorem k_655 : (Cond.instanceMethod yX5_entriesOfAll) ∈ wsA := wsA_k 655 (by decide +kernel) (by decide +kernel)
theorem k_656 : (Cond.selects RX5 yX5_entriesOfAll yX5_entriesOfAll) ∈ wsA := wsA_k 656 (by decide +kernel) (by decide +kernel)
theorem k_657 : (Cond.code yX5_entriesOfAll cX5_entriesOfAll 3 (some .int)) ∈ wsA := wsA_k 657 (by decide +kernel) (by decide +kernel)
theorem k_658 : (Cond.methodLink RX6 160 yX1_tell) ∈ wsA := wsA_k 658 (by decide +kernel) (by decide +kernel)
theorem k_659 : (Cond.instanceMethod yX1_tell) ∈ wsA := wsA_k 659 (by decide +kernel) (by decide +kernel)
theorem k_660 : (Cond.selects RX1 yX1_tell yX1_tell) ∈ wsA := wsA_k 660 (by decide +kernel) (by decide +kernel)
theorem k_661 : (Cond.code yX1_tell cX1_tell 2 (some .long)) ∈ wsA := wsA_k 661 (by decide +kernel) (by decide +kernel)
theorem k_662 : (Cond.classLink RL 27 RX7) ∈ wsA := wsA_k 662 (by decide +kernel) (by decide +kernel)
theorem k_663 : (Cond.instantiable RX7 38) ∈ wsA := wsA_k 663 (by decide +kernel) (by decide +kernel)
theorem k_664 : (Cond.methodLink RL 29 yX7_init) ∈ wsA := wsA_k 664 (by decide +kernel) (by decide +kernel)
theorem k_665 : (Cond.instanceMethod yX7_init) ∈ wsA := wsA_k 665 (by decide +kernel) (by decide +kernel)
theorem k_666 : (Cond.code yX7_init cX7_init 1 none) ∈ wsA := wsA_k 666 (by decide +kernel) (by decide +kernel)
theorem k_667 : (Cond.methodLink RX7 1 objectInit) ∈ wsA := wsA_k 667 (by decide +kernel) (by decide +kernel)
theorem k_668 : (Cond.fieldLink RX7 114 "AlignRowsModel" "fault" "I") ∈ wsA := wsA_k 668 (by decide +kernel) (by decide +kernel)
theorem k_669 : (Cond.fieldLink RX7 118 "AlignRowsModel" "tables" "I") ∈ wsA := wsA_k 669 (by decide +kernel) (by decide +kernel)
theorem k_670 : (Cond.fieldLink RX7 7 "AlignRowsModel" "tape" "[I") ∈ wsA := wsA_k 670 (by decide +kernel) (by decide +kernel)
theorem k_671 : (Cond.fieldLink RX7 13 "AlignRowsModel" "tapeSize" "[I") ∈ wsA := wsA_k 671 (by decide +kernel) (by decide +kernel)
theorem k_672 : (Cond.fieldLink RX7 16 "AlignRowsModel" "isLaid" "[Z") ∈ wsA := wsA_k 672 (by decide +kernel) (by decide +kernel)
theorem k_673 : (Cond.fieldLink RX7 20 "AlignRowsModel" "templates" "[I") ∈ wsA := wsA_k 673 (by decide +kernel) (by decide +kernel)
theorem k_674 : (Cond.fieldLink RX7 23 "AlignRowsModel" "repeats" "[I") ∈ wsA := wsA_k 674 (by decide +kernel) (by decide +kernel)
theorem k_675 : (Cond.fieldLink RX7 26 "AlignRowsModel" "before" "[I") ∈ wsA := wsA_k 675 (by decide +kernel) (by decide +kernel)
theorem k_676 : (Cond.fieldLink RX7 29 "AlignRowsModel" "behind" "[I") ∈ wsA := wsA_k 676 (by decide +kernel) (by decide +kernel)
theorem k_677 : (Cond.fieldLink RX7 32 "AlignRowsModel" "glueWidth" "[I") ∈ wsA := wsA_k 677 (by decide +kernel) (by decide +kernel)
theorem k_678 : (Cond.fieldLink RX7 35 "AlignRowsModel" "stretch" "[I") ∈ wsA := wsA_k 678 (by decide +kernel) (by decide +kernel)
theorem k_679 : (Cond.fieldLink RX7 38 "AlignRowsModel" "stretchOrder" "[I") ∈ wsA := wsA_k 679 (by decide +kernel) (by decide +kernel)
theorem k_680 : (Cond.fieldLink RX7 41 "AlignRowsModel" "shrinks" "[I") ∈ wsA := wsA_k 680 (by decide +kernel) (by decide +kernel)
theorem k_681 : (Cond.fieldLink RX7 44 "AlignRowsModel" "shrinkOrder" "[I") ∈ wsA := wsA_k 681 (by decide +kernel) (by decide +kernel)
theorem k_682 : (Cond.fieldLink RX7 47 "AlignRowsModel" "rows" "[I") ∈ wsA := wsA_k 682 (by decide +kernel) (by decide +kernel)
theorem k_683 : (Cond.fieldLink RX7 50 "AlignRowsModel" "isOpen" "[Z") ∈ wsA := wsA_k 683 (by decide +kernel) (by decide +kernel)
theorem k_684 : (Cond.fieldLink RX7 53 "AlignRowsModel" "rowFrom" "[I") ∈ wsA := wsA_k 684 (by decide +kernel) (by decide +kernel)
theorem k_685 : (Cond.fieldLink RX7 56 "AlignRowsModel" "rowSize" "[I") ∈ wsA := wsA_k 685 (by decide +kernel) (by decide +kernel)
theorem k_686 : (Cond.fieldLink RX7 59 "AlignRowsModel" "entries" "[I") ∈ wsA := wsA_k 686 (by decide +kernel) (by decide +kernel)
theorem k_687 : (Cond.fieldLink RX7 62 "AlignRowsModel" "wide" "[I") ∈ wsA := wsA_k 687 (by decide +kernel) (by decide +kernel)
theorem k_688 : (Cond.fieldLink RX7 65 "AlignRowsModel" "first" "[I") ∈ wsA := wsA_k 688 (by decide +kernel) (by decide +kernel)
theorem k_689 : (Cond.fieldLink RX7 68 "AlignRowsModel" "span" "[I") ∈ wsA := wsA_k 689 (by decide +kernel) (by decide +kernel)
theorem k_690 : (Cond.fieldLink RX7 71 "AlignRowsModel" "items" "[I") ∈ wsA := wsA_k 690 (by decide +kernel) (by decide +kernel)
theorem k_691 : (Cond.fieldLink RX7 74 "AlignRowsModel" "item" "[I") ∈ wsA := wsA_k 691 (by decide +kernel) (by decide +kernel)
theorem k_692 : (Cond.fieldLink RX7 77 "AlignRowsModel" "betweens" "[I") ∈ wsA := wsA_k 692 (by decide +kernel) (by decide +kernel)
theorem k_693 : (Cond.fieldLink RX7 80 "AlignRowsModel" "runs" "[I") ∈ wsA := wsA_k 693 (by decide +kernel) (by decide +kernel)
theorem k_694 : (Cond.fieldLink RX7 83 "AlignRowsModel" "columns" "[I") ∈ wsA := wsA_k 694 (by decide +kernel) (by decide +kernel)
theorem k_695 : (Cond.fieldLink RX7 86 "AlignRowsModel" "widths" "[I") ∈ wsA := wsA_k 695 (by decide +kernel) (by decide +kernel)
theorem k_696 : (Cond.fieldLink RX7 89 "AlignRowsModel" "isNothing" "[Z") ∈ wsA := wsA_k 696 (by decide +kernel) (by decide +kernel)
theorem k_697 : (Cond.fieldLink RX7 92 "AlignRowsModel" "places" "[J") ∈ wsA := wsA_k 697 (by decide +kernel) (by decide +kernel)
theorem k_698 : (Cond.fieldLink RX7 96 "AlignRowsModel" "natural" "[J") ∈ wsA := wsA_k 698 (by decide +kernel) (by decide +kernel)
theorem k_699 : (Cond.fieldLink RX7 99 "AlignRowsModel" "set" "[J") ∈ wsA := wsA_k 699 (by decide +kernel) (by decide +kernel)
theorem k_700 : (Cond.fieldLink RX7 102 "AlignRowsModel" "order" "[I") ∈ wsA := wsA_k 700 (by decide +kernel) (by decide +kernel)
theorem k_701 : (Cond.fieldLink RX7 105 "AlignRowsModel" "missing" "[J") ∈ wsA := wsA_k 701 (by decide +kernel) (by decide +kernel)
theorem k_702 : (Cond.fieldLink RX7 108 "AlignRowsModel" "need" "[I") ∈ wsA := wsA_k 702 (by decide +kernel) (by decide +kernel)
theorem k_703 : (Cond.fieldLink RX7 111 "AlignRowsModel" "from" "[I") ∈ wsA := wsA_k 703 (by decide +kernel) (by decide +kernel)
theorem k_704 : (Cond.fieldLink RX7 132 "AlignRowsModel" "at" "I") ∈ wsA := wsA_k 704 (by decide +kernel) (by decide +kernel)
theorem k_705 : (Cond.fieldLink RX7 139 "AlignRowsModel" "wrong" "I") ∈ wsA := wsA_k 705 (by decide +kernel) (by decide +kernel)
theorem k_783 : (Cond.methodLink RL 96 yX7_thrown) ∈ wsA := wsA_k 783 (by decide +kernel) (by decide +kernel)
theorem k_784 : (Cond.instanceMethod yX7_thrown) ∈ wsA := wsA_k 784 (by decide +kernel) (by decide +kernel)
theorem k_785 : (Cond.selects RX7 yX7_thrown yX7_thrown) ∈ wsA := wsA_k 785 (by decide +kernel) (by decide +kernel)
theorem k_786 : (Cond.code yX7_thrown cX7_thrown 1 (some .int)) ∈ wsA := wsA_k 786 (by decide +kernel) (by decide +kernel)
theorem k_787 : (Cond.methodLink RL 34 yX7_table) ∈ wsA := wsA_k 787 (by decide +kernel) (by decide +kernel)
theorem k_788 : (Cond.instanceMethod yX7_table) ∈ wsA := wsA_k 788 (by decide +kernel) (by decide +kernel)
theorem k_789 : (Cond.selects RX7 yX7_table yX7_table) ∈ wsA := wsA_k 789 (by decide +kernel) (by decide +kernel)
theorem k_790 : (Cond.code yX7_table cX7_table 1 (some .int)) ∈ wsA := wsA_k 790 (by decide +kernel) (by decide +kernel)
theorem k_791 : (Cond.methodLink RL 39 yX7_type) ∈ wsA := wsA_k 791 (by decide +kernel) (by decide +kernel)
theorem k_792 : (Cond.instanceMethod yX7_type) ∈ wsA := wsA_k 792 (by decide +kernel) (by decide +kernel)
theorem k_793 : (Cond.selects RX7 yX7_type yX7_type) ∈ wsA := wsA_k 793 (by decide +kernel) (by decide +kernel)
theorem k_794 : (Cond.code yX7_type cX7_type 9 (some .int)) ∈ wsA := wsA_k 794 (by decide +kernel) (by decide +kernel)
theorem k_795 : (Cond.methodLink RX7 121 yX7_isTable) ∈ wsA := wsA_k 795 (by decide +kernel) (by decide +kernel)
theorem k_797 : (Cond.instanceMethod yX7_isTable) ∈ wsA := wsA_k 797 (by decide +kernel) (by decide +kernel)
theorem k_798 : (Cond.code yX7_isTable cX7_isTable 2 (some .boolean)) ∈ wsA := wsA_k 798 (by decide +kernel) (by decide +kernel)
theorem k_799 : (Cond.methodLink RX7 125 yX7_byteOf) ∈ wsA := wsA_k 799 (by decide +kernel) (by decide +kernel)
theorem k_800 : (Cond.static yX7_byteOf) ∈ wsA := wsA_k 800 (by decide +kernel) (by decide +kernel)
theorem k_801 : (Cond.code yX7_byteOf cX7_byteOf 5 (some .int)) ∈ wsA := wsA_k 801 (by decide +kernel) (by decide +kernel)
theorem k_802 : (Cond.methodLink RX7 129 yX7_isLetter) ∈ wsA := wsA_k 802 (by decide +kernel) (by decide +kernel)
theorem k_803 : (Cond.static yX7_isLetter) ∈ wsA := wsA_k 803 (by decide +kernel) (by decide +kernel)
theorem k_804 : (Cond.code yX7_isLetter cX7_isLetter 1 (some .boolean)) ∈ wsA := wsA_k 804 (by decide +kernel) (by decide +kernel)
theorem k_805 : (Cond.methodLink RL 44 yX7_lay) ∈ wsA := wsA_k 805 (by decide +kernel) (by decide +kernel)
theorem k_806 : (Cond.instanceMethod yX7_lay) ∈ wsA := wsA_k 806 (by decide +kernel) (by decide +kernel)
theorem k_807 : (Cond.selects RX7 yX7_lay yX7_lay) ∈ wsA := wsA_k 807 (by decide +kernel) (by decide +kernel)
theorem k_808 : (Cond.code yX7_lay cX7_lay 2 (some .int)) ∈ wsA := wsA_k 808 (by decide +kernel) (by decide +kernel)
theorem k_809 : (Cond.methodLink RX7 145 yX7_readAll) ∈ wsA := wsA_k 809 (by decide +kernel) (by decide +kernel)
theorem k_811 : (Cond.instanceMethod yX7_readAll) ∈ wsA := wsA_k 811 (by decide +kernel) (by decide +kernel)
theorem k_812 : (Cond.code yX7_readAll cX7_readAll 6 none) ∈ wsA := wsA_k 812 (by decide +kernel) (by decide +kernel)
theorem k_813 : (Cond.methodLink RX7 135 yX7_sign) ∈ wsA := wsA_k 813 (by decide +kernel) (by decide +kernel)
theorem k_815 : (Cond.instanceMethod yX7_sign) ∈ wsA := wsA_k 815 (by decide +kernel) (by decide +kernel)
theorem k_816 : (Cond.code yX7_sign cX7_sign 2 (some .int)) ∈ wsA := wsA_k 816 (by decide +kernel) (by decide +kernel)
theorem k_817 : (Cond.methodLink RX7 142 yX7_passLetters) ∈ wsA := wsA_k 817 (by decide +kernel) (by decide +kernel)
theorem k_819 : (Cond.instanceMethod yX7_passLetters) ∈ wsA := wsA_k 819 (by decide +kernel) (by decide +kernel)
theorem k_820 : (Cond.code yX7_passLetters cX7_passLetters 3 (some .int)) ∈ wsA := wsA_k 820 (by decide +kernel) (by decide +kernel)
theorem k_821 : (Cond.methodLink RL 49 yX7_glue) ∈ wsA := wsA_k 821 (by decide +kernel) (by decide +kernel)
theorem k_822 : (Cond.instanceMethod yX7_glue) ∈ wsA := wsA_k 822 (by decide +kernel) (by decide +kernel)
theorem k_823 : (Cond.selects RX7 yX7_glue yX7_glue) ∈ wsA := wsA_k 823 (by decide +kernel) (by decide +kernel)
theorem k_824 : (Cond.code yX7_glue cX7_glue 7 (some .int)) ∈ wsA := wsA_k 824 (by decide +kernel) (by decide +kernel)
theorem k_825 : (Cond.methodLink RX7 153 yX7_wrongGlue) ∈ wsA := wsA_k 825 (by decide +kernel) (by decide +kernel)
theorem k_827 : (Cond.instanceMethod yX7_wrongGlue) ∈ wsA := wsA_k 827 (by decide +kernel) (by decide +kernel)
theorem k_828 : (Cond.code yX7_wrongGlue cX7_wrongGlue 3 (some .int)) ∈ wsA := wsA_k 828 (by decide +kernel) (by decide +kernel)
theorem k_829 : (Cond.methodLink RX7 149 yX7_in) ∈ wsA := wsA_k 829 (by decide +kernel) (by decide +kernel)
theorem k_830 : (Cond.static yX7_in) ∈ wsA := wsA_k 830 (by decide +kernel) (by decide +kernel)
theorem k_831 : (Cond.code yX7_in cX7_in 6 (some .boolean)) ∈ wsA := wsA_k 831 (by decide +kernel) (by decide +kernel)
theorem k_832 : (Cond.constantLong RX7 157 (-10000)) ∈ wsA := wsA_k 832 (by decide +kernel) (by decide +kernel)
theorem k_833 : (Cond.constantLong RX7 159 (10000)) ∈ wsA := wsA_k 833 (by decide +kernel) (by decide +kernel)
theorem k_834 : (Cond.constantLong RX7 161 (3)) ∈ wsA := wsA_k 834 (by decide +kernel) (by decide +kernel)
theorem k_835 : (Cond.methodLink RL 53 yX7_shrink) ∈ wsA := wsA_k 835 (by decide +kernel) (by decide +kernel)
theorem k_836 : (Cond.instanceMethod yX7_shrink) ∈ wsA := wsA_k 836 (by decide +kernel) (by decide +kernel)
theorem k_837 : (Cond.selects RX7 yX7_shrink yX7_shrink) ∈ wsA := wsA_k 837 (by decide +kernel) (by decide +kernel)
theorem k_838 : (Cond.code yX7_shrink cX7_shrink 6 (some .int)) ∈ wsA := wsA_k 838 (by decide +kernel) (by decide +kernel)
theorem k_839 : (Cond.methodLink RL 57 yX7_row) ∈ wsA := wsA_k 839 (by decide +kernel) (by decide +kernel)
theorem k_840 : (Cond.instanceMethod yX7_row) ∈ wsA := wsA_k 840 (by decide +kernel) (by decide +kernel)
theorem k_841 : (Cond.selects RX7 yX7_row yX7_row) ∈ wsA := wsA_k 841 (by decide +kernel) (by decide +kernel)
theorem k_842 : (Cond.code yX7_row cX7_row 2 (some .int)) ∈ wsA := wsA_k 842 (by decide +kernel) (by decide +kernel)
theorem k_843 : (Cond.methodLink RX7 163 yX7_stand) ∈ wsA := wsA_k 843 (by decide +kernel) (by decide +kernel)
theorem k_845 : (Cond.instanceMethod yX7_stand) ∈ wsA := wsA_k 845 (by decide +kernel) (by decide +kernel)
theorem k_846 : (Cond.code yX7_stand cX7_stand 3 none) ∈ wsA := wsA_k 846 (by decide +kernel) (by decide +kernel)
theorem k_847 : (Cond.methodLink RL 62 yX7_entry) ∈ wsA := wsA_k 847 (by decide +kernel) (by decide +kernel)
theorem k_848 : (Cond.instanceMethod yX7_entry) ∈ wsA := wsA_k 848 (by decide +kernel) (by decide +kernel)
theorem k_849 : (Cond.selects RX7 yX7_entry yX7_entry) ∈ wsA := wsA_k 849 (by decide +kernel) (by decide +kernel)
theorem k_850 : (Cond.code yX7_entry cX7_entry 7 (some .int)) ∈ wsA := wsA_k 850 (by decide +kernel) (by decide +kernel)
theorem k_851 : (Cond.constantLong RX7 170 (100000)) ∈ wsA := wsA_k 851 (by decide +kernel) (by decide +kernel)
theorem k_852 : (Cond.constantLong RX7 172 (8)) ∈ wsA := wsA_k 852 (by decide +kernel) (by decide +kernel)
theorem k_853 : (Cond.methodLink RX7 167 yX7_free) ∈ wsA := wsA_k 853 (by decide +kernel) (by decide +kernel)
theorem k_855 : (Cond.instanceMethod yX7_free) ∈ wsA := wsA_k 855 (by decide +kernel) (by decide +kernel)
theorem k_856 : (Cond.code yX7_free cX7_free 4 (some .int)) ∈ wsA := wsA_k 856 (by decide +kernel) (by decide +kernel)
theorem k_857 : (Cond.methodLink RX7 174 yX7_columnsOf) ∈ wsA := wsA_k 857 (by decide +kernel) (by decide +kernel)
theorem k_859 : (Cond.instanceMethod yX7_columnsOf) ∈ wsA := wsA_k 859 (by decide +kernel) (by decide +kernel)
theorem k_860 : (Cond.code yX7_columnsOf cX7_columnsOf 2 (some .int)) ∈ wsA := wsA_k 860 (by decide +kernel) (by decide +kernel)
theorem k_861 : (Cond.methodLink RX7 177 yX7_templateOf) ∈ wsA := wsA_k 861 (by decide +kernel) (by decide +kernel)
theorem k_863 : (Cond.instanceMethod yX7_templateOf) ∈ wsA := wsA_k 863 (by decide +kernel) (by decide +kernel)
theorem k_864 : (Cond.code yX7_templateOf cX7_templateOf 4 (some .int)) ∈ wsA := wsA_k 864 (by decide +kernel) (by decide +kernel)
theorem k_865 : (Cond.methodLink RX7 180 yX7_add) ∈ wsA := wsA_k 865 (by decide +kernel) (by decide +kernel)
theorem k_867 : (Cond.instanceMethod yX7_add) ∈ wsA := wsA_k 867 (by decide +kernel) (by decide +kernel)
theorem k_868 : (Cond.code yX7_add cX7_add 5 (some .int)) ∈ wsA := wsA_k 868 (by decide +kernel) (by decide +kernel)
theorem k_869 : (Cond.methodLink RL 67 yX7_nest) ∈ wsA := wsA_k 869 (by decide +kernel) (by decide +kernel)
theorem k_870 : (Cond.instanceMethod yX7_nest) ∈ wsA := wsA_k 870 (by decide +kernel) (by decide +kernel)
theorem k_871 : (Cond.selects RX7 yX7_nest yX7_nest) ∈ wsA := wsA_k 871 (by decide +kernel) (by decide +kernel)
theorem k_872 : (Cond.code yX7_nest cX7_nest 4 (some .int)) ∈ wsA := wsA_k 872 (by decide +kernel) (by decide +kernel)
theorem k_873 : (Cond.methodLink RL 71 yX7_end) ∈ wsA := wsA_k 873 (by decide +kernel) (by decide +kernel)
theorem k_874 : (Cond.instanceMethod yX7_end) ∈ wsA := wsA_k 874 (by decide +kernel) (by decide +kernel)
theorem k_875 : (Cond.selects RX7 yX7_end yX7_end) ∈ wsA := wsA_k 875 (by decide +kernel) (by decide +kernel)
theorem k_876 : (Cond.code yX7_end cX7_end 2 (some .int)) ∈ wsA := wsA_k 876 (by decide +kernel) (by decide +kernel)
theorem k_877 : (Cond.methodLink RL 75 yX7_between) ∈ wsA := wsA_k 877 (by decide +kernel) (by decide +kernel)
theorem k_878 : (Cond.instanceMethod yX7_between) ∈ wsA := wsA_k 878 (by decide +kernel) (by decide +kernel)
theorem k_879 : (Cond.selects RX7 yX7_between yX7_between) ∈ wsA := wsA_k 879 (by decide +kernel) (by decide +kernel)
theorem k_880 : (Cond.code yX7_between cX7_between 2 (some .int)) ∈ wsA := wsA_k 880 (by decide +kernel) (by decide +kernel)
theorem k_881 : (Cond.methodLink RL 80 yX7_run) ∈ wsA := wsA_k 881 (by decide +kernel) (by decide +kernel)
theorem k_882 : (Cond.instanceMethod yX7_run) ∈ wsA := wsA_k 882 (by decide +kernel) (by decide +kernel)
theorem k_883 : (Cond.selects RX7 yX7_run yX7_run) ∈ wsA := wsA_k 883 (by decide +kernel) (by decide +kernel)
theorem k_884 : (Cond.code yX7_run cX7_run 7 (some .long)) ∈ wsA := wsA_k 884 (by decide +kernel) (by decide +kernel)
theorem k_885 : (Cond.constantLong RX7 191 (-1)) ∈ wsA := wsA_k 885 (by decide +kernel) (by decide +kernel)
theorem k_886 : (Cond.constantLong RX7 193 (-3)) ∈ wsA := wsA_k 886 (by decide +kernel) (by decide +kernel)
theorem k_887 : (Cond.constantLong RX7 195 (2)) ∈ wsA := wsA_k 887 (by decide +kernel) (by decide +kernel)
theorem k_888 : (Cond.constantLong RX7 197 (-1000000)) ∈ wsA := wsA_k 888 (by decide +kernel) (by decide +kernel)
theorem k_889 : (Cond.constantLong RX7 199 (1000000)) ∈ wsA := wsA_k 889 (by decide +kernel) (by decide +kernel)
theorem k_890 : (Cond.constantLong RX7 201 (-2)) ∈ wsA := wsA_k 890 (by decide +kernel) (by decide +kernel)
theorem k_891 : (Cond.methodLink RX7 203 yX7_findWidths) ∈ wsA := wsA_k 891 (by decide +kernel) (by decide +kernel)
theorem k_893 : (Cond.instanceMethod yX7_findWidths) ∈ wsA := wsA_k 893 (by decide +kernel) (by decide +kernel)
theorem k_894 : (Cond.code yX7_findWidths cX7_findWidths 7 none) ∈ wsA := wsA_k 894 (by decide +kernel) (by decide +kernel)
theorem k_895 : (Cond.methodLink RX7 184 yX7_glueBehind) ∈ wsA := wsA_k 895 (by decide +kernel) (by decide +kernel)
theorem k_897 : (Cond.instanceMethod yX7_glueBehind) ∈ wsA := wsA_k 897 (by decide +kernel) (by decide +kernel)
theorem k_898 : (Cond.code yX7_glueBehind cX7_glueBehind 3 (some .int)) ∈ wsA := wsA_k 898 (by decide +kernel) (by decide +kernel)
theorem k_899 : (Cond.methodLink RX7 206 yX7_widthOfGlue) ∈ wsA := wsA_k 899 (by decide +kernel) (by decide +kernel)
theorem k_901 : (Cond.instanceMethod yX7_widthOfGlue) ∈ wsA := wsA_k 901 (by decide +kernel) (by decide +kernel)
theorem k_902 : (Cond.code yX7_widthOfGlue cX7_widthOfGlue 3 (some .long)) ∈ wsA := wsA_k 902 (by decide +kernel) (by decide +kernel)
theorem k_903 : (Cond.methodLink RX7 210 yX7_share) ∈ wsA := wsA_k 903 (by decide +kernel) (by decide +kernel)
theorem k_905 : (Cond.instanceMethod yX7_share) ∈ wsA := wsA_k 905 (by decide +kernel) (by decide +kernel)
theorem k_906 : (Cond.code yX7_share cX7_share 17 none) ∈ wsA := wsA_k 906 (by decide +kernel) (by decide +kernel)
theorem k_907 : (Cond.methodLink RX7 213 yX7_sumOf) ∈ wsA := wsA_k 907 (by decide +kernel) (by decide +kernel)
theorem k_909 : (Cond.instanceMethod yX7_sumOf) ∈ wsA := wsA_k 909 (by decide +kernel) (by decide +kernel)
theorem k_910 : (Cond.code yX7_sumOf cX7_sumOf 8 (some .long)) ∈ wsA := wsA_k 910 (by decide +kernel) (by decide +kernel)
theorem k_911 : (Cond.methodLink RX7 187 yX7_gives) ∈ wsA := wsA_k 911 (by decide +kernel) (by decide +kernel)
theorem k_913 : (Cond.instanceMethod yX7_gives) ∈ wsA := wsA_k 913 (by decide +kernel) (by decide +kernel)
theorem k_914 : (Cond.code yX7_gives cX7_gives 6 (some .long)) ∈ wsA := wsA_k 914 (by decide +kernel) (by decide +kernel)
theorem k_915 : (Cond.methodLink RL 84 yX7_width) ∈ wsA := wsA_k 915 (by decide +kernel) (by decide +kernel)
theorem k_916 : (Cond.instanceMethod yX7_width) ∈ wsA := wsA_k 916 (by decide +kernel) (by decide +kernel)
theorem k_917 : (Cond.selects RX7 yX7_width yX7_width) ∈ wsA := wsA_k 917 (by decide +kernel) (by decide +kernel)
theorem k_918 : (Cond.code yX7_width cX7_width 3 (some .int)) ∈ wsA := wsA_k 918 (by decide +kernel) (by decide +kernel)
theorem k_919 : (Cond.methodLink RX7 216 yX7_isColumn) ∈ wsA := wsA_k 919 (by decide +kernel) (by decide +kernel)
theorem k_921 : (Cond.instanceMethod yX7_isColumn) ∈ wsA := wsA_k 921 (by decide +kernel) (by decide +kernel)
theorem k_922 : (Cond.code yX7_isColumn cX7_isColumn 3 (some .boolean)) ∈ wsA := wsA_k 922 (by decide +kernel) (by decide +kernel)
theorem k_923 : (Cond.methodLink RL 89 yX7_isVoid) ∈ wsA := wsA_k 923 (by decide +kernel) (by decide +kernel)
theorem k_924 : (Cond.instanceMethod yX7_isVoid) ∈ wsA := wsA_k 924 (by decide +kernel) (by decide +kernel)
theorem k_925 : (Cond.selects RX7 yX7_isVoid yX7_isVoid) ∈ wsA := wsA_k 925 (by decide +kernel) (by decide +kernel)
theorem k_926 : (Cond.code yX7_isVoid cX7_isVoid 3 (some .boolean)) ∈ wsA := wsA_k 926 (by decide +kernel) (by decide +kernel)
theorem k_927 : (Cond.methodLink RL 95 yX7_place) ∈ wsA := wsA_k 927 (by decide +kernel) (by decide +kernel)
theorem k_928 : (Cond.instanceMethod yX7_place) ∈ wsA := wsA_k 928 (by decide +kernel) (by decide +kernel)
theorem k_929 : (Cond.selects RX7 yX7_place yX7_place) ∈ wsA := wsA_k 929 (by decide +kernel) (by decide +kernel)
theorem k_930 : (Cond.code yX7_place cX7_place 3 (some .long)) ∈ wsA := wsA_k 930 (by decide +kernel) (by decide +kernel)
theorem k_931 : (Cond.methodLink RL 102 yX7_at) ∈ wsA := wsA_k 931 (by decide +kernel) (by decide +kernel)
theorem k_932 : (Cond.instanceMethod yX7_at) ∈ wsA := wsA_k 932 (by decide +kernel) (by decide +kernel)
theorem k_933 : (Cond.selects RX7 yX7_at yX7_at) ∈ wsA := wsA_k 933 (by decide +kernel) (by decide +kernel)
theorem k_934 : (Cond.code yX7_at cX7_at 9 (some .long)) ∈ wsA := wsA_k 934 (by decide +kernel) (by decide +kernel)
theorem k_935 : (Cond.methodLink RL 105 yX7_item) ∈ wsA := wsA_k 935 (by decide +kernel) (by decide +kernel)
theorem k_936 : (Cond.instanceMethod yX7_item) ∈ wsA := wsA_k 936 (by decide +kernel) (by decide +kernel)
theorem k_937 : (Cond.selects RX7 yX7_item yX7_item) ∈ wsA := wsA_k 937 (by decide +kernel) (by decide +kernel)
theorem k_938 : (Cond.code yX7_item cX7_item 3 (some .int)) ∈ wsA := wsA_k 938 (by decide +kernel) (by decide +kernel)
theorem k_939 : (Cond.methodLink RL 108 yX7_count) ∈ wsA := wsA_k 939 (by decide +kernel) (by decide +kernel)
theorem k_940 : (Cond.instanceMethod yX7_count) ∈ wsA := wsA_k 940 (by decide +kernel) (by decide +kernel)
theorem k_941 : (Cond.selects RX7 yX7_count yX7_count) ∈ wsA := wsA_k 941 (by decide +kernel) (by decide +kernel)
theorem k_942 : (Cond.code yX7_count cX7_count 3 (some .long)) ∈ wsA := wsA_k 942 (by decide +kernel) (by decide +kernel)
set_option maxRecDepth 20000 in
theorem i_Jx00060 : ∀ w ∈ u_ws RJx00060 TJx00060 6, w ∈ wsA := wsA_r _ [560, 562, 564, 566, 568, 570] (by decide +kernel) (by decide +kernel)
set_option maxRecDepth 20000 in
theorem i_X0 : ∀ w ∈ u_ws RX0 TX0 5, w ∈ wsA := wsA_r _ [197, 199, 201, 203, 205] (by decide +kernel) (by decide +kernel)
set_option maxRecDepth 20000 in
theorem i_X1 : ∀ w ∈ u_ws RX1 TX1 13, w ∈ wsA := wsA_r _ [155, 157, 159, 161, 163, 165, 167, 169, 171, 173, 175, 177, 179] (by decide +kernel) (by decide +kernel)
set_option maxRecDepth 20000 in
theorem i_X2 : ∀ w ∈ u_ws RX2 TX2 1, w ∈ wsA := wsA_r _ [134] (by decide +kernel) (by decide +kernel)
set_option maxRecDepth 20000 in
theorem i_X3 : ∀ w ∈ u_ws RX3 TX3 8, w ∈ wsA := wsA_r _ [96, 98, 100, 102, 104, 106, 108, 110] (by decide +kernel) (by decide +kernel)
set_option maxRecDepth 20000 in
theorem i_X4 : ∀ w ∈ u_ws RX4 TX4 5, w ∈ wsA := wsA_r _ [228, 230, 232, 234, 236] (by decide +kernel) (by decide +kernel)
set_option maxRecDepth 20000 in
theorem i_X5 : ∀ w ∈ u_ws RX5 TX5 9, w ∈ wsA := wsA_r _ [258, 260, 262, 264, 266, 268, 270, 272, 274] (by decide +kernel) (by decide +kernel)
set_option maxRecDepth 20000 in
theorem i_X6 : ∀ w ∈ u_ws RX6 TX6 2, w ∈ wsA := wsA_r _ [63, 65] (by decide +kernel) (by decide +kernel)
set_option maxRecDepth 20000 in
theorem i_X7 : ∀ w ∈ u_ws RX7 TX7 38, w ∈ wsA := wsA_r _ [706, 708, 710, 712, 714, 716, 718, 720, 722, 724, 726, 728, 730, 732, 734, 736, 738, 740, 742, 744, 746, 748, 750, 752, 754, 756, 758, 760, 762, 764, 766, 768, 770, 772, 774, 776, 778, 780] (by decide +kernel) (by decide +kernel)
def wsN : List Cond := [(Cond.methodLinkNest RX5 11 yX3_init "AlignRows"), (Cond.fieldLinkNest RX5 103 "AlignRows$Preamble" "length" "I" "AlignRows"), (Cond.fieldLinkNest RX5 57 "AlignRows$Preamble" "laid" "Z" "AlignRows"), (Cond.fieldLinkNest RX1 92 "AlignRows$Preamble" "templates" "I" "AlignRows"), (Cond.fieldLinkNest RX5 60 "AlignRows$Preamble" "templates" "I" "AlignRows"), (Cond.fieldLinkNest RX5 97 "AlignRows$Preamble" "repeatFrom" "I" "AlignRows"), (Cond.methodLinkNest RX5 36 yX1_init "AlignRows"), (Cond.methodLinkNest RX1 34 yX2_init "AlignRows"), (Cond.fieldLinkNest RX6 111 "AlignRows$LastRun" "widths" "[I" "AlignRows"), (Cond.fieldLinkNest RX6 115 "AlignRows$LastRun" "voids" "[Z" "AlignRows"), (Cond.fieldLinkNest RX6 122 "AlignRows$LastRun" "places" "[J" "AlignRows"), (Cond.methodLinkNest RX5 55 yX0_init "AlignRows"), (Cond.fieldLinkNest RX1 131 "AlignRows$Glue" "width" "I" "AlignRows"), (Cond.fieldLinkNest RX1 144 "AlignRows$Glue" "stretch" "I" "AlignRows"), (Cond.fieldLinkNest RX1 150 "AlignRows$Glue" "stretchOrder" "I" "AlignRows"), (Cond.fieldLinkNest RX1 147 "AlignRows$Glue" "shrink" "I" "AlignRows"), (Cond.fieldLinkNest RX1 153 "AlignRows$Glue" "shrinkOrder" "I" "AlignRows"), (Cond.methodLinkNest RX5 56 yX4_init "AlignRows"), (Cond.fieldLinkNest RX1 122 "AlignRows$Row" "widths" "[I" "AlignRows"), (Cond.fieldLinkNest RX6 134 "AlignRows$Row" "widths" "[I" "AlignRows"), (Cond.fieldLinkNest RX1 116 "AlignRows$Row" "firsts" "[I" "AlignRows"), (Cond.fieldLinkNest RX6 137 "AlignRows$Row" "firsts" "[I" "AlignRows"), (Cond.fieldLinkNest RX1 119 "AlignRows$Row" "spans" "[I" "AlignRows"), (Cond.fieldLinkNest RX6 140 "AlignRows$Row" "spans" "[I" "AlignRows"), (Cond.fieldLinkNest RX1 113 "AlignRows$Row" "entries" "I" "AlignRows"), (Cond.fieldLinkNest RX5 75 "AlignRows$Row" "entries" "I" "AlignRows"), (Cond.fieldLinkNest RX1 104 "AlignRows$Row" "columns" "I" "AlignRows"), (Cond.fieldLinkNest RX5 78 "AlignRows$Row" "columns" "I" "AlignRows"), (Cond.fieldLinkNest RX1 86 "AlignRows$Table" "preamble" "LAlignRows$Preamble;" "AlignRows"), (Cond.fieldLinkNest RX6 24 "AlignRows$Table" "preamble" "LAlignRows$Preamble;" "AlignRows"), (Cond.fieldLinkNest RX6 46 "AlignRows$Table" "glues" "[LAlignRows$Glue;" "AlignRows"), (Cond.fieldLinkNest RX1 100 "AlignRows$Table" "rows" "[LAlignRows$Row;" "AlignRows"), (Cond.fieldLinkNest RX6 130 "AlignRows$Table" "rows" "[LAlignRows$Row;" "AlignRows"), (Cond.fieldLinkNest RX6 153 "AlignRows$Table" "items" "[I" "AlignRows"), (Cond.fieldLinkNest RX6 72 "AlignRows$Table" "lastRun" "LAlignRows$LastRun;" "AlignRows"), (Cond.fieldLinkNest RX1 97 "AlignRows$Table" "rowCount" "I" "AlignRows"), (Cond.fieldLinkNest RX6 150 "AlignRows$Table" "itemCount" "I" "AlignRows"), (Cond.fieldLinkNest RX6 63 "AlignRows$Table" "open" "Z" "AlignRows"), (Cond.methodLinkNest RX3 55 yX6_isIn "AlignRows"), (Cond.methodLinkNest RX5 63 yX6_isIn "AlignRows"), (Cond.methodLinkNest RX1 177 yX6_isIn "AlignRows")]
set_option maxRecDepth 20000 in
theorem wsN_tbl : ∀ w ∈ wsN, w ∈ lw_tbl := by
  intro w hw
  have hp : wsN = ([79, 87, 89, 91, 92, 94, 121, 127, 140, 142, 144, 183, 188, 190, 192, 194, 196, 209, 214, 215, 217, 218, 220, 221, 223, 224, 226, 227, 240, 241, 243, 245, 246, 248, 250, 252, 255, 257, 298, 341, 516] : List Nat).filterMap (fun i => lw_tbl[i]?) := by decide +kernel
  rw [hp] at hw
  obtain ⟨i, -, hi⟩ := List.mem_filterMap.mp hw
  exact List.mem_of_getElem? hi
theorem n_79 : (Cond.methodLinkNest RX5 11 yX3_init "AlignRows") ∈ wsN := List.mem_of_getElem? (i := 0) rfl
theorem n_87 : (Cond.fieldLinkNest RX5 103 "AlignRows$Preamble" "length" "I" "AlignRows") ∈ wsN := List.mem_of_getElem? (i := 1) rfl
theorem n_89 : (Cond.fieldLinkNest RX5 57 "AlignRows$Preamble" "laid" "Z" "AlignRows") ∈ wsN := List.mem_of_getElem? (i := 2) rfl
theorem n_91 : (Cond.fieldLinkNest RX1 92 "AlignRows$Preamble" "templates" "I" "AlignRows") ∈ wsN := List.mem_of_getElem? (i := 3) rfl
theorem n_92 : (Cond.fieldLinkNest RX5 60 "AlignRows$Preamble" "templates" "I" "AlignRows") ∈ wsN := List.mem_of_getElem? (i := 4) rfl
theorem n_94 : (Cond.fieldLinkNest RX5 97 "AlignRows$Preamble" "repeatFrom" "I" "AlignRows") ∈ wsN := List.mem_of_getElem? (i := 5) rfl
theorem n_121 : (Cond.methodLinkNest RX5 36 yX1_init "AlignRows") ∈ wsN := List.mem_of_getElem? (i := 6) rfl
theorem n_127 : (Cond.methodLinkNest RX1 34 yX2_init "AlignRows") ∈ wsN := List.mem_of_getElem? (i := 7) rfl
theorem n_140 : (Cond.fieldLinkNest RX6 111 "AlignRows$LastRun" "widths" "[I" "AlignRows") ∈ wsN := List.mem_of_getElem? (i := 8) rfl
theorem n_142 : (Cond.fieldLinkNest RX6 115 "AlignRows$LastRun" "voids" "[Z" "AlignRows") ∈ wsN := List.mem_of_getElem? (i := 9) rfl
theorem n_144 : (Cond.fieldLinkNest RX6 122 "AlignRows$LastRun" "places" "[J" "AlignRows") ∈ wsN := List.mem_of_getElem? (i := 10) rfl
theorem n_183 : (Cond.methodLinkNest RX5 55 yX0_init "AlignRows") ∈ wsN := List.mem_of_getElem? (i := 11) rfl
theorem n_188 : (Cond.fieldLinkNest RX1 131 "AlignRows$Glue" "width" "I" "AlignRows") ∈ wsN := List.mem_of_getElem? (i := 12) rfl
theorem n_190 : (Cond.fieldLinkNest RX1 144 "AlignRows$Glue" "stretch" "I" "AlignRows") ∈ wsN := List.mem_of_getElem? (i := 13) rfl
theorem n_192 : (Cond.fieldLinkNest RX1 150 "AlignRows$Glue" "stretchOrder" "I" "AlignRows") ∈ wsN := List.mem_of_getElem? (i := 14) rfl
theorem n_194 : (Cond.fieldLinkNest RX1 147 "AlignRows$Glue" "shrink" "I" "AlignRows") ∈ wsN := List.mem_of_getElem? (i := 15) rfl
theorem n_196 : (Cond.fieldLinkNest RX1 153 "AlignRows$Glue" "shrinkOrder" "I" "AlignRows") ∈ wsN := List.mem_of_getElem? (i := 16) rfl
theorem n_209 : (Cond.methodLinkNest RX5 56 yX4_init "AlignRows") ∈ wsN := List.mem_of_getElem? (i := 17) rfl
theorem n_214 : (Cond.fieldLinkNest RX1 122 "AlignRows$Row" "widths" "[I" "AlignRows") ∈ wsN := List.mem_of_getElem? (i := 18) rfl
theorem n_215 : (Cond.fieldLinkNest RX6 134 "AlignRows$Row" "widths" "[I" "AlignRows") ∈ wsN := List.mem_of_getElem? (i := 19) rfl
theorem n_217 : (Cond.fieldLinkNest RX1 116 "AlignRows$Row" "firsts" "[I" "AlignRows") ∈ wsN := List.mem_of_getElem? (i := 20) rfl
theorem n_218 : (Cond.fieldLinkNest RX6 137 "AlignRows$Row" "firsts" "[I" "AlignRows") ∈ wsN := List.mem_of_getElem? (i := 21) rfl
theorem n_220 : (Cond.fieldLinkNest RX1 119 "AlignRows$Row" "spans" "[I" "AlignRows") ∈ wsN := List.mem_of_getElem? (i := 22) rfl
theorem n_221 : (Cond.fieldLinkNest RX6 140 "AlignRows$Row" "spans" "[I" "AlignRows") ∈ wsN := List.mem_of_getElem? (i := 23) rfl
theorem n_223 : (Cond.fieldLinkNest RX1 113 "AlignRows$Row" "entries" "I" "AlignRows") ∈ wsN := List.mem_of_getElem? (i := 24) rfl
theorem n_224 : (Cond.fieldLinkNest RX5 75 "AlignRows$Row" "entries" "I" "AlignRows") ∈ wsN := List.mem_of_getElem? (i := 25) rfl
theorem n_226 : (Cond.fieldLinkNest RX1 104 "AlignRows$Row" "columns" "I" "AlignRows") ∈ wsN := List.mem_of_getElem? (i := 26) rfl
theorem n_227 : (Cond.fieldLinkNest RX5 78 "AlignRows$Row" "columns" "I" "AlignRows") ∈ wsN := List.mem_of_getElem? (i := 27) rfl
theorem n_240 : (Cond.fieldLinkNest RX1 86 "AlignRows$Table" "preamble" "LAlignRows$Preamble;" "AlignRows") ∈ wsN := List.mem_of_getElem? (i := 28) rfl
theorem n_241 : (Cond.fieldLinkNest RX6 24 "AlignRows$Table" "preamble" "LAlignRows$Preamble;" "AlignRows") ∈ wsN := List.mem_of_getElem? (i := 29) rfl
theorem n_243 : (Cond.fieldLinkNest RX6 46 "AlignRows$Table" "glues" "[LAlignRows$Glue;" "AlignRows") ∈ wsN := List.mem_of_getElem? (i := 30) rfl
theorem n_245 : (Cond.fieldLinkNest RX1 100 "AlignRows$Table" "rows" "[LAlignRows$Row;" "AlignRows") ∈ wsN := List.mem_of_getElem? (i := 31) rfl
theorem n_246 : (Cond.fieldLinkNest RX6 130 "AlignRows$Table" "rows" "[LAlignRows$Row;" "AlignRows") ∈ wsN := List.mem_of_getElem? (i := 32) rfl
theorem n_248 : (Cond.fieldLinkNest RX6 153 "AlignRows$Table" "items" "[I" "AlignRows") ∈ wsN := List.mem_of_getElem? (i := 33) rfl
theorem n_250 : (Cond.fieldLinkNest RX6 72 "AlignRows$Table" "lastRun" "LAlignRows$LastRun;" "AlignRows") ∈ wsN := List.mem_of_getElem? (i := 34) rfl
theorem n_252 : (Cond.fieldLinkNest RX1 97 "AlignRows$Table" "rowCount" "I" "AlignRows") ∈ wsN := List.mem_of_getElem? (i := 35) rfl
theorem n_255 : (Cond.fieldLinkNest RX6 150 "AlignRows$Table" "itemCount" "I" "AlignRows") ∈ wsN := List.mem_of_getElem? (i := 36) rfl
theorem n_257 : (Cond.fieldLinkNest RX6 63 "AlignRows$Table" "open" "Z" "AlignRows") ∈ wsN := List.mem_of_getElem? (i := 37) rfl
theorem n_298 : (Cond.methodLinkNest RX3 55 yX6_isIn "AlignRows") ∈ wsN := List.mem_of_getElem? (i := 38) rfl
theorem n_341 : (Cond.methodLinkNest RX5 63 yX6_isIn "AlignRows") ∈ wsN := List.mem_of_getElem? (i := 39) rfl
theorem n_516 : (Cond.methodLinkNest RX1 177 yX6_isIn "AlignRows") ∈ wsN := List.mem_of_getElem? (i := 40) rfl
def wsO : List Cond := [(Cond.arrayOver (.object "AlignRows$Table")), (Cond.arrayOver (.object "AlignRows$Glue")), (Cond.arrayOver (.object "AlignRows$Row")), (Cond.arrayOver (.array .int))]
set_option maxRecDepth 20000 in
theorem wsO_tbl : ∀ w ∈ wsO, w ∈ lw_tbl := by
  intro w hw
  have hp : wsO = ([60, 116, 118, 132] : List Nat).filterMap (fun i => lw_tbl[i]?) := by decide +kernel
  rw [hp] at hw
  obtain ⟨i, -, hi⟩ := List.mem_filterMap.mp hw
  exact List.mem_of_getElem? hi
theorem o_60 : (Cond.arrayOver (.object "AlignRows$Table")) ∈ wsO := List.mem_of_getElem? (i := 0) rfl
theorem o_116 : (Cond.arrayOver (.object "AlignRows$Glue")) ∈ wsO := List.mem_of_getElem? (i := 1) rfl
theorem o_118 : (Cond.arrayOver (.object "AlignRows$Row")) ∈ wsO := List.mem_of_getElem? (i := 2) rfl
theorem o_132 : (Cond.arrayOver (.array .int)) ∈ wsO := List.mem_of_getElem? (i := 3) rfl
end
section
theorem dX0_init_0 : decode cX0_init 0 = .ok (.aload_n 0, 1) := by decide +kernel
theorem dX0_init_1 : decode cX0_init 1 = .ok (.invokespecial 1, 3) := by decide +kernel
theorem dX0_init_4 : decode cX0_init 4 = .ok (.aload_n 0, 1) := by decide +kernel
theorem dX0_init_5 : decode cX0_init 5 = .ok (.iconst 0, 1) := by decide +kernel
theorem dX0_init_6 : decode cX0_init 6 = .ok (.putfield 7, 3) := by decide +kernel
theorem dX0_init_9 : decode cX0_init 9 = .ok (.aload_n 0, 1) := by decide +kernel
theorem dX0_init_10 : decode cX0_init 10 = .ok (.iconst 0, 1) := by decide +kernel
theorem dX0_init_11 : decode cX0_init 11 = .ok (.putfield 13, 3) := by decide +kernel
theorem dX0_init_14 : decode cX0_init 14 = .ok (.aload_n 0, 1) := by decide +kernel
theorem dX0_init_15 : decode cX0_init 15 = .ok (.iconst 0, 1) := by decide +kernel
theorem dX0_init_16 : decode cX0_init 16 = .ok (.putfield 16, 3) := by decide +kernel
theorem dX0_init_19 : decode cX0_init 19 = .ok (.aload_n 0, 1) := by decide +kernel
theorem dX0_init_20 : decode cX0_init 20 = .ok (.iconst 0, 1) := by decide +kernel
theorem dX0_init_21 : decode cX0_init 21 = .ok (.putfield 19, 3) := by decide +kernel
theorem dX0_init_24 : decode cX0_init 24 = .ok (.aload_n 0, 1) := by decide +kernel
theorem dX0_init_25 : decode cX0_init 25 = .ok (.iconst 0, 1) := by decide +kernel
theorem dX0_init_26 : decode cX0_init 26 = .ok (.putfield 22, 3) := by decide +kernel
theorem dX0_init_29 : decode cX0_init 29 = .ok (.return_, 1) := by decide +kernel
theorem dX0_setStretch_0 : decode cX0_setStretch 0 = .ok (.aload_n 0, 1) := by decide +kernel
theorem dX0_setStretch_1 : decode cX0_setStretch 1 = .ok (.iload_n 1, 1) := by decide +kernel
theorem dX0_setStretch_2 : decode cX0_setStretch 2 = .ok (.putfield 7, 3) := by decide +kernel
theorem dX0_setStretch_5 : decode cX0_setStretch 5 = .ok (.aload_n 0, 1) := by decide +kernel
theorem dX0_setStretch_6 : decode cX0_setStretch 6 = .ok (.iload_n 2, 1) := by decide +kernel
theorem dX0_setStretch_7 : decode cX0_setStretch 7 = .ok (.putfield 13, 3) := by decide +kernel
theorem dX0_setStretch_10 : decode cX0_setStretch 10 = .ok (.aload_n 0, 1) := by decide +kernel
theorem dX0_setStretch_11 : decode cX0_setStretch 11 = .ok (.iload_n 3, 1) := by decide +kernel
theorem dX0_setStretch_12 : decode cX0_setStretch 12 = .ok (.putfield 16, 3) := by decide +kernel
theorem dX0_setStretch_15 : decode cX0_setStretch 15 = .ok (.return_, 1) := by decide +kernel
theorem dX0_setShrink_0 : decode cX0_setShrink 0 = .ok (.aload_n 0, 1) := by decide +kernel
theorem dX0_setShrink_1 : decode cX0_setShrink 1 = .ok (.iload_n 1, 1) := by decide +kernel
theorem dX0_setShrink_2 : decode cX0_setShrink 2 = .ok (.putfield 19, 3) := by decide +kernel
theorem dX0_setShrink_5 : decode cX0_setShrink 5 = .ok (.aload_n 0, 1) := by decide +kernel
theorem dX0_setShrink_6 : decode cX0_setShrink 6 = .ok (.iload_n 2, 1) := by decide +kernel
theorem dX0_setShrink_7 : decode cX0_setShrink 7 = .ok (.putfield 22, 3) := by decide +kernel
theorem dX0_setShrink_10 : decode cX0_setShrink 10 = .ok (.return_, 1) := by decide +kernel
theorem dX1_init_0 : decode cX1_init 0 = .ok (.aload_n 0, 1) := by decide +kernel
theorem dX1_init_1 : decode cX1_init 1 = .ok (.invokespecial 3, 3) := by decide +kernel
theorem dX1_init_4 : decode cX1_init 4 = .ok (.aload_n 0, 1) := by decide +kernel
theorem dX1_init_5 : decode cX1_init 5 = .ok (.bipush 24, 2) := by decide +kernel
theorem dX1_init_7 : decode cX1_init 7 = .ok (.newarray .int, 2) := by decide +kernel
theorem dX1_init_9 : decode cX1_init 9 = .ok (.putfield 9, 3) := by decide +kernel
theorem dX1_init_12 : decode cX1_init 12 = .ok (.aload_n 0, 1) := by decide +kernel
theorem dX1_init_13 : decode cX1_init 13 = .ok (.bipush 24, 2) := by decide +kernel
theorem dX1_init_15 : decode cX1_init 15 = .ok (.newarray .boolean, 2) := by decide +kernel
theorem dX1_init_17 : decode cX1_init 17 = .ok (.putfield 15, 3) := by decide +kernel
theorem dX1_init_20 : decode cX1_init 20 = .ok (.aload_n 0, 1) := by decide +kernel
theorem dX1_init_21 : decode cX1_init 21 = .ok (.bipush 24, 2) := by decide +kernel
theorem dX1_init_23 : decode cX1_init 23 = .ok (.newarray .long, 2) := by decide +kernel
theorem dX1_init_25 : decode cX1_init 25 = .ok (.putfield 19, 3) := by decide +kernel
theorem dX1_init_28 : decode cX1_init 28 = .ok (.aload_n 0, 1) := by decide +kernel
theorem dX1_init_29 : decode cX1_init 29 = .ok (.bipush 25, 2) := by decide +kernel
theorem dX1_init_31 : decode cX1_init 31 = .ok (.newarray .int, 2) := by decide +kernel
theorem dX1_init_33 : decode cX1_init 33 = .ok (.putfield 23, 3) := by decide +kernel
theorem dX1_init_36 : decode cX1_init 36 = .ok (.aload_n 0, 1) := by decide +kernel
theorem dX1_init_37 : decode cX1_init 37 = .ok (.bipush 25, 2) := by decide +kernel
theorem dX1_init_39 : decode cX1_init 39 = .ok (.newarray .int, 2) := by decide +kernel
theorem dX1_init_41 : decode cX1_init 41 = .ok (.putfield 26, 3) := by decide +kernel
theorem dX1_init_44 : decode cX1_init 44 = .ok (.aload_n 0, 1) := by decide +kernel
theorem dX1_init_45 : decode cX1_init 45 = .ok (.bipush 25, 2) := by decide +kernel
theorem dX1_init_47 : decode cX1_init 47 = .ok (.newarray .int, 2) := by decide +kernel
theorem dX1_init_49 : decode cX1_init 49 = .ok (.putfield 29, 3) := by decide +kernel
theorem dX1_init_52 : decode cX1_init 52 = .ok (.aload_n 0, 1) := by decide +kernel
theorem dX1_init_53 : decode cX1_init 53 = .ok (.new 32, 3) := by decide +kernel
theorem dX1_init_56 : decode cX1_init 56 = .ok (.dup, 1) := by decide +kernel
theorem dX1_init_57 : decode cX1_init 57 = .ok (.invokespecial 34, 3) := by decide +kernel
theorem dX1_init_60 : decode cX1_init 60 = .ok (.putfield 35, 3) := by decide +kernel
theorem dX1_init_63 : decode cX1_init 63 = .ok (.aload_n 0, 1) := by decide +kernel
theorem dX1_init_64 : decode cX1_init 64 = .ok (.iconst 0, 1) := by decide +kernel
theorem dX1_init_65 : decode cX1_init 65 = .ok (.putfield 39, 3) := by decide +kernel
theorem dX1_init_68 : decode cX1_init 68 = .ok (.aload_n 0, 1) := by decide +kernel
theorem dX1_init_69 : decode cX1_init 69 = .ok (.iconst 0, 1) := by decide +kernel
theorem dX1_init_70 : decode cX1_init 70 = .ok (.putfield 43, 3) := by decide +kernel
theorem dX1_init_73 : decode cX1_init 73 = .ok (.aload_n 0, 1) := by decide +kernel
theorem dX1_init_74 : decode cX1_init 74 = .ok (.lconst 0, 1) := by decide +kernel
theorem dX1_init_75 : decode cX1_init 75 = .ok (.putfield 46, 3) := by decide +kernel
theorem dX1_init_78 : decode cX1_init 78 = .ok (.aload_n 0, 1) := by decide +kernel
theorem dX1_init_79 : decode cX1_init 79 = .ok (.lconst 0, 1) := by decide +kernel
theorem dX1_init_80 : decode cX1_init 80 = .ok (.putfield 50, 3) := by decide +kernel
theorem dX1_init_83 : decode cX1_init 83 = .ok (.aload_n 0, 1) := by decide +kernel
theorem dX1_init_84 : decode cX1_init 84 = .ok (.iconst (-1), 1) := by decide +kernel
theorem dX1_init_85 : decode cX1_init 85 = .ok (.putfield 53, 3) := by decide +kernel
theorem dX1_init_88 : decode cX1_init 88 = .ok (.aload_n 0, 1) := by decide +kernel
theorem dX1_init_89 : decode cX1_init 89 = .ok (.lconst 0, 1) := by decide +kernel
theorem dX1_init_90 : decode cX1_init 90 = .ok (.putfield 56, 3) := by decide +kernel
theorem dX1_init_93 : decode cX1_init 93 = .ok (.return_, 1) := by decide +kernel
theorem dX1_setTable_0 : decode cX1_setTable 0 = .ok (.aload_n 0, 1) := by decide +kernel
theorem dX1_setTable_1 : decode cX1_setTable 1 = .ok (.aload_n 1, 1) := by decide +kernel
theorem dX1_setTable_2 : decode cX1_setTable 2 = .ok (.invokevirtual 59, 3) := by decide +kernel
theorem dX1_setTable_5 : decode cX1_setTable 5 = .ok (.aload_n 0, 1) := by decide +kernel
theorem dX1_setTable_6 : decode cX1_setTable 6 = .ok (.aload_n 1, 1) := by decide +kernel
theorem dX1_setTable_7 : decode cX1_setTable 7 = .ok (.invokevirtual 63, 3) := by decide +kernel
theorem dX1_setTable_10 : decode cX1_setTable 10 = .ok (.aload_n 0, 1) := by decide +kernel
theorem dX1_setTable_11 : decode cX1_setTable 11 = .ok (.aload_n 0, 1) := by decide +kernel
theorem dX1_setTable_12 : decode cX1_setTable 12 = .ok (.invokevirtual 66, 3) := by decide +kernel
theorem dX1_setTable_15 : decode cX1_setTable 15 = .ok (.putfield 46, 3) := by decide +kernel
theorem dX1_setTable_18 : decode cX1_setTable 18 = .ok (.aload_n 0, 1) := by decide +kernel
theorem dX1_setTable_19 : decode cX1_setTable 19 = .ok (.iload_n 2, 1) := by decide +kernel
theorem dX1_setTable_20 : decode cX1_setTable 20 = .ok (.ifCond .ne 7, 3) := by decide +kernel
theorem dX1_setTable_23 : decode cX1_setTable 23 = .ok (.lconst 0, 1) := by decide +kernel
theorem dX1_setTable_24 : decode cX1_setTable 24 = .ok (.goto 20, 3) := by decide +kernel
theorem dX1_setTable_27 : decode cX1_setTable 27 = .ok (.iload_n 2, 1) := by decide +kernel
theorem dX1_setTable_28 : decode cX1_setTable 28 = .ok (.iconst 1, 1) := by decide +kernel
theorem dX1_setTable_29 : decode cX1_setTable 29 = .ok (.if_icmp .ne 13, 3) := by decide +kernel
theorem dX1_setTable_32 : decode cX1_setTable 32 = .ok (.iload_n 3, 1) := by decide +kernel
theorem dX1_setTable_33 : decode cX1_setTable 33 = .ok (.i2l, 1) := by decide +kernel
theorem dX1_setTable_34 : decode cX1_setTable 34 = .ok (.aload_n 0, 1) := by decide +kernel
theorem dX1_setTable_35 : decode cX1_setTable 35 = .ok (.getfield 46, 3) := by decide +kernel
theorem dX1_setTable_38 : decode cX1_setTable 38 = .ok (.lsub, 1) := by decide +kernel
theorem dX1_setTable_39 : decode cX1_setTable 39 = .ok (.goto 5, 3) := by decide +kernel
theorem dX1_setTable_42 : decode cX1_setTable 42 = .ok (.iload_n 3, 1) := by decide +kernel
theorem dX1_setTable_43 : decode cX1_setTable 43 = .ok (.i2l, 1) := by decide +kernel
theorem dX1_setTable_44 : decode cX1_setTable 44 = .ok (.putfield 50, 3) := by decide +kernel
theorem dX1_setTable_47 : decode cX1_setTable 47 = .ok (.aload_n 0, 1) := by decide +kernel
theorem dX1_setTable_48 : decode cX1_setTable 48 = .ok (.aload_n 1, 1) := by decide +kernel
theorem dX1_setTable_49 : decode cX1_setTable 49 = .ok (.invokevirtual 70, 3) := by decide +kernel
theorem dX1_setTable_52 : decode cX1_setTable 52 = .ok (.aload_n 0, 1) := by decide +kernel
theorem dX1_setTable_53 : decode cX1_setTable 53 = .ok (.aload_n 0, 1) := by decide +kernel
theorem dX1_setTable_54 : decode cX1_setTable 54 = .ok (.invokevirtual 73, 3) := by decide +kernel
theorem dX1_setTable_57 : decode cX1_setTable 57 = .ok (.putfield 53, 3) := by decide +kernel
theorem dX1_setTable_60 : decode cX1_setTable 60 = .ok (.aload_n 0, 1) := by decide +kernel
theorem dX1_setTable_61 : decode cX1_setTable 61 = .ok (.invokevirtual 77, 3) := by decide +kernel
theorem dX1_setTable_64 : decode cX1_setTable 64 = .ok (.aload_n 0, 1) := by decide +kernel
theorem dX1_setTable_65 : decode cX1_setTable 65 = .ok (.dup, 1) := by decide +kernel
theorem dX1_setTable_66 : decode cX1_setTable 66 = .ok (.getfield 39, 3) := by decide +kernel
theorem dX1_setTable_69 : decode cX1_setTable 69 = .ok (.iconst 1, 1) := by decide +kernel
theorem dX1_setTable_70 : decode cX1_setTable 70 = .ok (.iadd, 1) := by decide +kernel
theorem dX1_setTable_71 : decode cX1_setTable 71 = .ok (.putfield 39, 3) := by decide +kernel
theorem dX1_setTable_74 : decode cX1_setTable 74 = .ok (.aload_n 0, 1) := by decide +kernel
theorem dX1_setTable_75 : decode cX1_setTable 75 = .ok (.invokevirtual 80, 3) := by decide +kernel
theorem dX1_setTable_78 : decode cX1_setTable 78 = .ok (.lreturn, 1) := by decide +kernel
theorem dX1_gatherNeeds_0 : decode cX1_gatherNeeds 0 = .ok (.aload_n 0, 1) := by decide +kernel
theorem dX1_gatherNeeds_1 : decode cX1_gatherNeeds 1 = .ok (.getfield 35, 3) := by decide +kernel
theorem dX1_gatherNeeds_4 : decode cX1_gatherNeeds 4 = .ok (.invokevirtual 83, 3) := by decide +kernel
theorem dX1_gatherNeeds_7 : decode cX1_gatherNeeds 7 = .ok (.aload_n 0, 1) := by decide +kernel
theorem dX1_gatherNeeds_8 : decode cX1_gatherNeeds 8 = .ok (.aload_n 1, 1) := by decide +kernel
theorem dX1_gatherNeeds_9 : decode cX1_gatherNeeds 9 = .ok (.getfield 86, 3) := by decide +kernel
theorem dX1_gatherNeeds_12 : decode cX1_gatherNeeds 12 = .ok (.getfield 92, 3) := by decide +kernel
theorem dX1_gatherNeeds_15 : decode cX1_gatherNeeds 15 = .ok (.putfield 43, 3) := by decide +kernel
theorem dX1_gatherNeeds_18 : decode cX1_gatherNeeds 18 = .ok (.iconst 0, 1) := by decide +kernel
theorem dX1_gatherNeeds_19 : decode cX1_gatherNeeds 19 = .ok (.istore_n 2, 1) := by decide +kernel
theorem dX1_gatherNeeds_20 : decode cX1_gatherNeeds 20 = .ok (.iload_n 2, 1) := by decide +kernel
theorem dX1_gatherNeeds_21 : decode cX1_gatherNeeds 21 = .ok (.aload_n 1, 1) := by decide +kernel
theorem dX1_gatherNeeds_22 : decode cX1_gatherNeeds 22 = .ok (.getfield 97, 3) := by decide +kernel
theorem dX1_gatherNeeds_25 : decode cX1_gatherNeeds 25 = .ok (.if_icmp .ge 77, 3) := by decide +kernel
theorem dX1_gatherNeeds_28 : decode cX1_gatherNeeds 28 = .ok (.aload_n 1, 1) := by decide +kernel
theorem dX1_gatherNeeds_29 : decode cX1_gatherNeeds 29 = .ok (.getfield 100, 3) := by decide +kernel
theorem dX1_gatherNeeds_32 : decode cX1_gatherNeeds 32 = .ok (.iload_n 2, 1) := by decide +kernel
theorem dX1_gatherNeeds_33 : decode cX1_gatherNeeds 33 = .ok (.aaload, 1) := by decide +kernel
theorem dX1_gatherNeeds_34 : decode cX1_gatherNeeds 34 = .ok (.astore_n 3, 1) := by decide +kernel
theorem dX1_gatherNeeds_35 : decode cX1_gatherNeeds 35 = .ok (.aload_n 0, 1) := by decide +kernel
theorem dX1_gatherNeeds_36 : decode cX1_gatherNeeds 36 = .ok (.aload_n 0, 1) := by decide +kernel
theorem dX1_gatherNeeds_37 : decode cX1_gatherNeeds 37 = .ok (.getfield 43, 3) := by decide +kernel
theorem dX1_gatherNeeds_40 : decode cX1_gatherNeeds 40 = .ok (.aload_n 3, 1) := by decide +kernel
theorem dX1_gatherNeeds_41 : decode cX1_gatherNeeds 41 = .ok (.getfield 104, 3) := by decide +kernel
theorem dX1_gatherNeeds_44 : decode cX1_gatherNeeds 44 = .ok (.invokestatic 107, 3) := by decide +kernel
theorem dX1_gatherNeeds_47 : decode cX1_gatherNeeds 47 = .ok (.putfield 43, 3) := by decide +kernel
theorem dX1_gatherNeeds_50 : decode cX1_gatherNeeds 50 = .ok (.iconst 0, 1) := by decide +kernel
theorem dX1_gatherNeeds_51 : decode cX1_gatherNeeds 51 = .ok (.istore 4, 2) := by decide +kernel
theorem dX1_gatherNeeds_53 : decode cX1_gatherNeeds 53 = .ok (.iload 4, 2) := by decide +kernel
theorem dX1_gatherNeeds_55 : decode cX1_gatherNeeds 55 = .ok (.aload_n 3, 1) := by decide +kernel
theorem dX1_gatherNeeds_56 : decode cX1_gatherNeeds 56 = .ok (.getfield 113, 3) := by decide +kernel
theorem dX1_gatherNeeds_59 : decode cX1_gatherNeeds 59 = .ok (.if_icmp .ge 37, 3) := by decide +kernel
theorem dX1_gatherNeeds_62 : decode cX1_gatherNeeds 62 = .ok (.aload_n 0, 1) := by decide +kernel
theorem dX1_gatherNeeds_63 : decode cX1_gatherNeeds 63 = .ok (.getfield 35, 3) := by decide +kernel
theorem dX1_gatherNeeds_66 : decode cX1_gatherNeeds 66 = .ok (.aload_n 3, 1) := by decide +kernel
theorem dX1_gatherNeeds_67 : decode cX1_gatherNeeds 67 = .ok (.getfield 116, 3) := by decide +kernel
theorem dX1_gatherNeeds_70 : decode cX1_gatherNeeds 70 = .ok (.iload 4, 2) := by decide +kernel
theorem dX1_gatherNeeds_72 : decode cX1_gatherNeeds 72 = .ok (.iaload, 1) := by decide +kernel
theorem dX1_gatherNeeds_73 : decode cX1_gatherNeeds 73 = .ok (.aload_n 3, 1) := by decide +kernel
theorem dX1_gatherNeeds_74 : decode cX1_gatherNeeds 74 = .ok (.getfield 119, 3) := by decide +kernel
theorem dX1_gatherNeeds_77 : decode cX1_gatherNeeds 77 = .ok (.iload 4, 2) := by decide +kernel
theorem dX1_gatherNeeds_79 : decode cX1_gatherNeeds 79 = .ok (.iaload, 1) := by decide +kernel
theorem dX1_gatherNeeds_80 : decode cX1_gatherNeeds 80 = .ok (.aload_n 3, 1) := by decide +kernel
theorem dX1_gatherNeeds_81 : decode cX1_gatherNeeds 81 = .ok (.getfield 122, 3) := by decide +kernel
theorem dX1_gatherNeeds_84 : decode cX1_gatherNeeds 84 = .ok (.iload 4, 2) := by decide +kernel
theorem dX1_gatherNeeds_86 : decode cX1_gatherNeeds 86 = .ok (.iaload, 1) := by decide +kernel
theorem dX1_gatherNeeds_87 : decode cX1_gatherNeeds 87 = .ok (.invokevirtual 123, 3) := by decide +kernel
theorem dX1_gatherNeeds_90 : decode cX1_gatherNeeds 90 = .ok (.iinc 4 1, 3) := by decide +kernel
theorem dX1_gatherNeeds_93 : decode cX1_gatherNeeds 93 = .ok (.goto (-40), 3) := by decide +kernel
theorem dX1_gatherNeeds_96 : decode cX1_gatherNeeds 96 = .ok (.iinc 2 1, 3) := by decide +kernel
theorem dX1_gatherNeeds_99 : decode cX1_gatherNeeds 99 = .ok (.goto (-79), 3) := by decide +kernel
theorem dX1_gatherNeeds_102 : decode cX1_gatherNeeds 102 = .ok (.return_, 1) := by decide +kernel
theorem dX1_findWidths_0 : decode cX1_findWidths 0 = .ok (.aload_n 0, 1) := by decide +kernel
theorem dX1_findWidths_1 : decode cX1_findWidths 1 = .ok (.getfield 23, 3) := by decide +kernel
theorem dX1_findWidths_4 : decode cX1_findWidths 4 = .ok (.iconst 0, 1) := by decide +kernel
theorem dX1_findWidths_5 : decode cX1_findWidths 5 = .ok (.aload_n 1, 1) := by decide +kernel
theorem dX1_findWidths_6 : decode cX1_findWidths 6 = .ok (.iconst 0, 1) := by decide +kernel
theorem dX1_findWidths_7 : decode cX1_findWidths 7 = .ok (.invokevirtual 127, 3) := by decide +kernel
theorem dX1_findWidths_10 : decode cX1_findWidths 10 = .ok (.getfield 131, 3) := by decide +kernel
theorem dX1_findWidths_13 : decode cX1_findWidths 13 = .ok (.iastore, 1) := by decide +kernel
theorem dX1_findWidths_14 : decode cX1_findWidths 14 = .ok (.iconst 0, 1) := by decide +kernel
theorem dX1_findWidths_15 : decode cX1_findWidths 15 = .ok (.istore_n 2, 1) := by decide +kernel
theorem dX1_findWidths_16 : decode cX1_findWidths 16 = .ok (.iload_n 2, 1) := by decide +kernel
theorem dX1_findWidths_17 : decode cX1_findWidths 17 = .ok (.aload_n 0, 1) := by decide +kernel
theorem dX1_findWidths_18 : decode cX1_findWidths 18 = .ok (.getfield 43, 3) := by decide +kernel
theorem dX1_findWidths_21 : decode cX1_findWidths 21 = .ok (.if_icmp .ge 108, 3) := by decide +kernel
theorem dX1_findWidths_24 : decode cX1_findWidths 24 = .ok (.aload_n 0, 1) := by decide +kernel
theorem dX1_findWidths_25 : decode cX1_findWidths 25 = .ok (.getfield 35, 3) := by decide +kernel
theorem dX1_findWidths_28 : decode cX1_findWidths 28 = .ok (.iload_n 2, 1) := by decide +kernel
theorem dX1_findWidths_29 : decode cX1_findWidths 29 = .ok (.invokevirtual 136, 3) := by decide +kernel
theorem dX1_findWidths_32 : decode cX1_findWidths 32 = .ok (.istore_n 3, 1) := by decide +kernel
theorem dX1_findWidths_33 : decode cX1_findWidths 33 = .ok (.aload_n 0, 1) := by decide +kernel
theorem dX1_findWidths_34 : decode cX1_findWidths 34 = .ok (.getfield 15, 3) := by decide +kernel
theorem dX1_findWidths_37 : decode cX1_findWidths 37 = .ok (.iload_n 2, 1) := by decide +kernel
theorem dX1_findWidths_38 : decode cX1_findWidths 38 = .ok (.iload_n 3, 1) := by decide +kernel
theorem dX1_findWidths_39 : decode cX1_findWidths 39 = .ok (.iconst (-1), 1) := by decide +kernel
theorem dX1_findWidths_40 : decode cX1_findWidths 40 = .ok (.if_icmp .ne 7, 3) := by decide +kernel
theorem dX1_findWidths_43 : decode cX1_findWidths 43 = .ok (.iconst 1, 1) := by decide +kernel
theorem dX1_findWidths_44 : decode cX1_findWidths 44 = .ok (.goto 4, 3) := by decide +kernel
theorem dX1_findWidths_47 : decode cX1_findWidths 47 = .ok (.iconst 0, 1) := by decide +kernel
theorem dX1_findWidths_48 : decode cX1_findWidths 48 = .ok (.bastore, 1) := by decide +kernel
theorem dX1_findWidths_49 : decode cX1_findWidths 49 = .ok (.aload_n 0, 1) := by decide +kernel
theorem dX1_findWidths_50 : decode cX1_findWidths 50 = .ok (.getfield 9, 3) := by decide +kernel
theorem dX1_findWidths_53 : decode cX1_findWidths 53 = .ok (.iload_n 2, 1) := by decide +kernel
theorem dX1_findWidths_54 : decode cX1_findWidths 54 = .ok (.aload_n 0, 1) := by decide +kernel
theorem dX1_findWidths_55 : decode cX1_findWidths 55 = .ok (.getfield 15, 3) := by decide +kernel
theorem dX1_findWidths_58 : decode cX1_findWidths 58 = .ok (.iload_n 2, 1) := by decide +kernel
theorem dX1_findWidths_59 : decode cX1_findWidths 59 = .ok (.baload, 1) := by decide +kernel
theorem dX1_findWidths_60 : decode cX1_findWidths 60 = .ok (.ifCond .eq 7, 3) := by decide +kernel
theorem dX1_findWidths_63 : decode cX1_findWidths 63 = .ok (.iconst 0, 1) := by decide +kernel
theorem dX1_findWidths_64 : decode cX1_findWidths 64 = .ok (.goto 4, 3) := by decide +kernel
theorem dX1_findWidths_67 : decode cX1_findWidths 67 = .ok (.iload_n 3, 1) := by decide +kernel
theorem dX1_findWidths_68 : decode cX1_findWidths 68 = .ok (.iastore, 1) := by decide +kernel
theorem dX1_findWidths_69 : decode cX1_findWidths 69 = .ok (.aload_n 0, 1) := by decide +kernel
theorem dX1_findWidths_70 : decode cX1_findWidths 70 = .ok (.getfield 23, 3) := by decide +kernel
theorem dX1_findWidths_73 : decode cX1_findWidths 73 = .ok (.iload_n 2, 1) := by decide +kernel
theorem dX1_findWidths_74 : decode cX1_findWidths 74 = .ok (.iconst 1, 1) := by decide +kernel
theorem dX1_findWidths_75 : decode cX1_findWidths 75 = .ok (.iadd, 1) := by decide +kernel
theorem dX1_findWidths_76 : decode cX1_findWidths 76 = .ok (.aload_n 0, 1) := by decide +kernel
theorem dX1_findWidths_77 : decode cX1_findWidths 77 = .ok (.getfield 15, 3) := by decide +kernel
theorem dX1_findWidths_80 : decode cX1_findWidths 80 = .ok (.iload_n 2, 1) := by decide +kernel
theorem dX1_findWidths_81 : decode cX1_findWidths 81 = .ok (.baload, 1) := by decide +kernel
theorem dX1_findWidths_82 : decode cX1_findWidths 82 = .ok (.ifCond .eq 7, 3) := by decide +kernel
theorem dX1_findWidths_85 : decode cX1_findWidths 85 = .ok (.iconst 0, 1) := by decide +kernel
theorem dX1_findWidths_86 : decode cX1_findWidths 86 = .ok (.goto 13, 3) := by decide +kernel
theorem dX1_findWidths_89 : decode cX1_findWidths 89 = .ok (.aload_n 1, 1) := by decide +kernel
theorem dX1_findWidths_90 : decode cX1_findWidths 90 = .ok (.iload_n 2, 1) := by decide +kernel
theorem dX1_findWidths_91 : decode cX1_findWidths 91 = .ok (.iconst 1, 1) := by decide +kernel
theorem dX1_findWidths_92 : decode cX1_findWidths 92 = .ok (.iadd, 1) := by decide +kernel
theorem dX1_findWidths_93 : decode cX1_findWidths 93 = .ok (.invokevirtual 127, 3) := by decide +kernel
theorem dX1_findWidths_96 : decode cX1_findWidths 96 = .ok (.getfield 131, 3) := by decide +kernel
theorem dX1_findWidths_99 : decode cX1_findWidths 99 = .ok (.iastore, 1) := by decide +kernel
theorem dX1_findWidths_100 : decode cX1_findWidths 100 = .ok (.aload_n 0, 1) := by decide +kernel
theorem dX1_findWidths_101 : decode cX1_findWidths 101 = .ok (.getfield 35, 3) := by decide +kernel
theorem dX1_findWidths_104 : decode cX1_findWidths 104 = .ok (.iload_n 2, 1) := by decide +kernel
theorem dX1_findWidths_105 : decode cX1_findWidths 105 = .ok (.aload_n 0, 1) := by decide +kernel
theorem dX1_findWidths_106 : decode cX1_findWidths 106 = .ok (.getfield 9, 3) := by decide +kernel
theorem dX1_findWidths_109 : decode cX1_findWidths 109 = .ok (.iload_n 2, 1) := by decide +kernel
theorem dX1_findWidths_110 : decode cX1_findWidths 110 = .ok (.iaload, 1) := by decide +kernel
theorem dX1_findWidths_111 : decode cX1_findWidths 111 = .ok (.aload_n 0, 1) := by decide +kernel
theorem dX1_findWidths_112 : decode cX1_findWidths 112 = .ok (.getfield 23, 3) := by decide +kernel
theorem dX1_findWidths_115 : decode cX1_findWidths 115 = .ok (.iload_n 2, 1) := by decide +kernel
theorem dX1_findWidths_116 : decode cX1_findWidths 116 = .ok (.iconst 1, 1) := by decide +kernel
theorem dX1_findWidths_117 : decode cX1_findWidths 117 = .ok (.iadd, 1) := by decide +kernel
theorem dX1_findWidths_118 : decode cX1_findWidths 118 = .ok (.iaload, 1) := by decide +kernel
theorem dX1_findWidths_119 : decode cX1_findWidths 119 = .ok (.iadd, 1) := by decide +kernel
theorem dX1_findWidths_120 : decode cX1_findWidths 120 = .ok (.invokevirtual 140, 3) := by decide +kernel
theorem dX1_findWidths_123 : decode cX1_findWidths 123 = .ok (.iinc 2 1, 3) := by decide +kernel
theorem dX1_findWidths_126 : decode cX1_findWidths 126 = .ok (.goto (-110), 3) := by decide +kernel
theorem dX1_findWidths_129 : decode cX1_findWidths 129 = .ok (.return_, 1) := by decide +kernel
theorem dX1_naturalWidth_0 : decode cX1_naturalWidth 0 = .ok (.aload_n 0, 1) := by decide +kernel
theorem dX1_naturalWidth_1 : decode cX1_naturalWidth 1 = .ok (.getfield 23, 3) := by decide +kernel
theorem dX1_naturalWidth_4 : decode cX1_naturalWidth 4 = .ok (.iconst 0, 1) := by decide +kernel
theorem dX1_naturalWidth_5 : decode cX1_naturalWidth 5 = .ok (.iaload, 1) := by decide +kernel
theorem dX1_naturalWidth_6 : decode cX1_naturalWidth 6 = .ok (.i2l, 1) := by decide +kernel
theorem dX1_naturalWidth_7 : decode cX1_naturalWidth 7 = .ok (.lstore_n 1, 1) := by decide +kernel
theorem dX1_naturalWidth_8 : decode cX1_naturalWidth 8 = .ok (.iconst 0, 1) := by decide +kernel
theorem dX1_naturalWidth_9 : decode cX1_naturalWidth 9 = .ok (.istore_n 3, 1) := by decide +kernel
theorem dX1_naturalWidth_10 : decode cX1_naturalWidth 10 = .ok (.iload_n 3, 1) := by decide +kernel
theorem dX1_naturalWidth_11 : decode cX1_naturalWidth 11 = .ok (.aload_n 0, 1) := by decide +kernel
theorem dX1_naturalWidth_12 : decode cX1_naturalWidth 12 = .ok (.getfield 43, 3) := by decide +kernel
theorem dX1_naturalWidth_15 : decode cX1_naturalWidth 15 = .ok (.if_icmp .ge 28, 3) := by decide +kernel
theorem dX1_naturalWidth_18 : decode cX1_naturalWidth 18 = .ok (.lload_n 1, 1) := by decide +kernel
theorem dX1_naturalWidth_19 : decode cX1_naturalWidth 19 = .ok (.aload_n 0, 1) := by decide +kernel
theorem dX1_naturalWidth_20 : decode cX1_naturalWidth 20 = .ok (.getfield 9, 3) := by decide +kernel
theorem dX1_naturalWidth_23 : decode cX1_naturalWidth 23 = .ok (.iload_n 3, 1) := by decide +kernel
theorem dX1_naturalWidth_24 : decode cX1_naturalWidth 24 = .ok (.iaload, 1) := by decide +kernel
theorem dX1_naturalWidth_25 : decode cX1_naturalWidth 25 = .ok (.aload_n 0, 1) := by decide +kernel
theorem dX1_naturalWidth_26 : decode cX1_naturalWidth 26 = .ok (.getfield 23, 3) := by decide +kernel
theorem dX1_naturalWidth_29 : decode cX1_naturalWidth 29 = .ok (.iload_n 3, 1) := by decide +kernel
theorem dX1_naturalWidth_30 : decode cX1_naturalWidth 30 = .ok (.iconst 1, 1) := by decide +kernel
theorem dX1_naturalWidth_31 : decode cX1_naturalWidth 31 = .ok (.iadd, 1) := by decide +kernel
theorem dX1_naturalWidth_32 : decode cX1_naturalWidth 32 = .ok (.iaload, 1) := by decide +kernel
theorem dX1_naturalWidth_33 : decode cX1_naturalWidth 33 = .ok (.iadd, 1) := by decide +kernel
theorem dX1_naturalWidth_34 : decode cX1_naturalWidth 34 = .ok (.i2l, 1) := by decide +kernel
theorem dX1_naturalWidth_35 : decode cX1_naturalWidth 35 = .ok (.ladd, 1) := by decide +kernel
theorem dX1_naturalWidth_36 : decode cX1_naturalWidth 36 = .ok (.lstore_n 1, 1) := by decide +kernel
theorem dX1_naturalWidth_37 : decode cX1_naturalWidth 37 = .ok (.iinc 3 1, 3) := by decide +kernel
theorem dX1_naturalWidth_40 : decode cX1_naturalWidth 40 = .ok (.goto (-30), 3) := by decide +kernel
theorem dX1_naturalWidth_43 : decode cX1_naturalWidth 43 = .ok (.lload_n 1, 1) := by decide +kernel
theorem dX1_naturalWidth_44 : decode cX1_naturalWidth 44 = .ok (.lreturn, 1) := by decide +kernel
theorem dX1_gatherGives_0 : decode cX1_gatherGives 0 = .ok (.iconst 0, 1) := by decide +kernel
theorem dX1_gatherGives_1 : decode cX1_gatherGives 1 = .ok (.istore_n 2, 1) := by decide +kernel
theorem dX1_gatherGives_2 : decode cX1_gatherGives 2 = .ok (.iload_n 2, 1) := by decide +kernel
theorem dX1_gatherGives_3 : decode cX1_gatherGives 3 = .ok (.aload_n 0, 1) := by decide +kernel
theorem dX1_gatherGives_4 : decode cX1_gatherGives 4 = .ok (.getfield 43, 3) := by decide +kernel
theorem dX1_gatherGives_7 : decode cX1_gatherGives 7 = .ok (.if_icmp .gt 98, 3) := by decide +kernel
theorem dX1_gatherGives_10 : decode cX1_gatherGives 10 = .ok (.aload_n 1, 1) := by decide +kernel
theorem dX1_gatherGives_11 : decode cX1_gatherGives 11 = .ok (.iload_n 2, 1) := by decide +kernel
theorem dX1_gatherGives_12 : decode cX1_gatherGives 12 = .ok (.invokevirtual 127, 3) := by decide +kernel
theorem dX1_gatherGives_15 : decode cX1_gatherGives 15 = .ok (.astore_n 3, 1) := by decide +kernel
theorem dX1_gatherGives_16 : decode cX1_gatherGives 16 = .ok (.iload_n 2, 1) := by decide +kernel
theorem dX1_gatherGives_17 : decode cX1_gatherGives 17 = .ok (.ifCond .le 18, 3) := by decide +kernel
theorem dX1_gatherGives_20 : decode cX1_gatherGives 20 = .ok (.aload_n 0, 1) := by decide +kernel
theorem dX1_gatherGives_21 : decode cX1_gatherGives 21 = .ok (.getfield 15, 3) := by decide +kernel
theorem dX1_gatherGives_24 : decode cX1_gatherGives 24 = .ok (.iload_n 2, 1) := by decide +kernel
theorem dX1_gatherGives_25 : decode cX1_gatherGives 25 = .ok (.iconst 1, 1) := by decide +kernel
theorem dX1_gatherGives_26 : decode cX1_gatherGives 26 = .ok (.isub, 1) := by decide +kernel
theorem dX1_gatherGives_27 : decode cX1_gatherGives 27 = .ok (.baload, 1) := by decide +kernel
theorem dX1_gatherGives_28 : decode cX1_gatherGives 28 = .ok (.ifCond .eq 7, 3) := by decide +kernel
theorem dX1_gatherGives_31 : decode cX1_gatherGives 31 = .ok (.iconst 1, 1) := by decide +kernel
theorem dX1_gatherGives_32 : decode cX1_gatherGives 32 = .ok (.goto 4, 3) := by decide +kernel
theorem dX1_gatherGives_35 : decode cX1_gatherGives 35 = .ok (.iconst 0, 1) := by decide +kernel
theorem dX1_gatherGives_36 : decode cX1_gatherGives 36 = .ok (.istore 4, 2) := by decide +kernel
theorem dX1_gatherGives_38 : decode cX1_gatherGives 38 = .ok (.aload_n 0, 1) := by decide +kernel
theorem dX1_gatherGives_39 : decode cX1_gatherGives 39 = .ok (.getfield 26, 3) := by decide +kernel
theorem dX1_gatherGives_42 : decode cX1_gatherGives 42 = .ok (.iload_n 2, 1) := by decide +kernel
theorem dX1_gatherGives_43 : decode cX1_gatherGives 43 = .ok (.iload 4, 2) := by decide +kernel
theorem dX1_gatherGives_45 : decode cX1_gatherGives 45 = .ok (.ifCond .eq 7, 3) := by decide +kernel
theorem dX1_gatherGives_48 : decode cX1_gatherGives 48 = .ok (.iconst 0, 1) := by decide +kernel
theorem dX1_gatherGives_49 : decode cX1_gatherGives 49 = .ok (.goto 23, 3) := by decide +kernel
theorem dX1_gatherGives_52 : decode cX1_gatherGives 52 = .ok (.aload_n 0, 1) := by decide +kernel
theorem dX1_gatherGives_53 : decode cX1_gatherGives 53 = .ok (.getfield 50, 3) := by decide +kernel
theorem dX1_gatherGives_56 : decode cX1_gatherGives 56 = .ok (.lconst 0, 1) := by decide +kernel
theorem dX1_gatherGives_57 : decode cX1_gatherGives 57 = .ok (.lcmp, 1) := by decide +kernel
theorem dX1_gatherGives_58 : decode cX1_gatherGives 58 = .ok (.ifCond .le 10, 3) := by decide +kernel
theorem dX1_gatherGives_61 : decode cX1_gatherGives 61 = .ok (.aload_n 3, 1) := by decide +kernel
theorem dX1_gatherGives_62 : decode cX1_gatherGives 62 = .ok (.getfield 144, 3) := by decide +kernel
theorem dX1_gatherGives_65 : decode cX1_gatherGives 65 = .ok (.goto 7, 3) := by decide +kernel
theorem dX1_gatherGives_68 : decode cX1_gatherGives 68 = .ok (.aload_n 3, 1) := by decide +kernel
theorem dX1_gatherGives_69 : decode cX1_gatherGives 69 = .ok (.getfield 147, 3) := by decide +kernel
theorem dX1_gatherGives_72 : decode cX1_gatherGives 72 = .ok (.iastore, 1) := by decide +kernel
theorem dX1_gatherGives_73 : decode cX1_gatherGives 73 = .ok (.aload_n 0, 1) := by decide +kernel
theorem dX1_gatherGives_74 : decode cX1_gatherGives 74 = .ok (.getfield 29, 3) := by decide +kernel
theorem dX1_gatherGives_77 : decode cX1_gatherGives 77 = .ok (.iload_n 2, 1) := by decide +kernel
theorem dX1_gatherGives_78 : decode cX1_gatherGives 78 = .ok (.aload_n 0, 1) := by decide +kernel
theorem dX1_gatherGives_79 : decode cX1_gatherGives 79 = .ok (.getfield 50, 3) := by decide +kernel
theorem dX1_gatherGives_82 : decode cX1_gatherGives 82 = .ok (.lconst 0, 1) := by decide +kernel
theorem dX1_gatherGives_83 : decode cX1_gatherGives 83 = .ok (.lcmp, 1) := by decide +kernel
theorem dX1_gatherGives_84 : decode cX1_gatherGives 84 = .ok (.ifCond .le 10, 3) := by decide +kernel
theorem dX1_gatherGives_87 : decode cX1_gatherGives 87 = .ok (.aload_n 3, 1) := by decide +kernel
theorem dX1_gatherGives_88 : decode cX1_gatherGives 88 = .ok (.getfield 150, 3) := by decide +kernel
theorem dX1_gatherGives_91 : decode cX1_gatherGives 91 = .ok (.goto 7, 3) := by decide +kernel
theorem dX1_gatherGives_94 : decode cX1_gatherGives 94 = .ok (.aload_n 3, 1) := by decide +kernel
theorem dX1_gatherGives_95 : decode cX1_gatherGives 95 = .ok (.getfield 153, 3) := by decide +kernel
theorem dX1_gatherGives_98 : decode cX1_gatherGives 98 = .ok (.iastore, 1) := by decide +kernel
theorem dX1_gatherGives_99 : decode cX1_gatherGives 99 = .ok (.iinc 2 1, 3) := by decide +kernel
theorem dX1_gatherGives_102 : decode cX1_gatherGives 102 = .ok (.goto (-100), 3) := by decide +kernel
theorem dX1_gatherGives_105 : decode cX1_gatherGives 105 = .ok (.return_, 1) := by decide +kernel
theorem dX1_greatestOrder_0 : decode cX1_greatestOrder 0 = .ok (.iconst (-1), 1) := by decide +kernel
theorem dX1_greatestOrder_1 : decode cX1_greatestOrder 1 = .ok (.istore_n 1, 1) := by decide +kernel
theorem dX1_greatestOrder_2 : decode cX1_greatestOrder 2 = .ok (.iconst 0, 1) := by decide +kernel
theorem dX1_greatestOrder_3 : decode cX1_greatestOrder 3 = .ok (.istore_n 2, 1) := by decide +kernel
theorem dX1_greatestOrder_4 : decode cX1_greatestOrder 4 = .ok (.iload_n 2, 1) := by decide +kernel
theorem dX1_greatestOrder_5 : decode cX1_greatestOrder 5 = .ok (.aload_n 0, 1) := by decide +kernel
theorem dX1_greatestOrder_6 : decode cX1_greatestOrder 6 = .ok (.getfield 43, 3) := by decide +kernel
theorem dX1_greatestOrder_9 : decode cX1_greatestOrder 9 = .ok (.if_icmp .gt 38, 3) := by decide +kernel
theorem dX1_greatestOrder_12 : decode cX1_greatestOrder 12 = .ok (.aload_n 0, 1) := by decide +kernel
theorem dX1_greatestOrder_13 : decode cX1_greatestOrder 13 = .ok (.getfield 50, 3) := by decide +kernel
theorem dX1_greatestOrder_16 : decode cX1_greatestOrder 16 = .ok (.lconst 0, 1) := by decide +kernel
theorem dX1_greatestOrder_17 : decode cX1_greatestOrder 17 = .ok (.lcmp, 1) := by decide +kernel
theorem dX1_greatestOrder_18 : decode cX1_greatestOrder 18 = .ok (.ifCond .eq 29, 3) := by decide +kernel
theorem dX1_greatestOrder_21 : decode cX1_greatestOrder 21 = .ok (.aload_n 0, 1) := by decide +kernel
theorem dX1_greatestOrder_22 : decode cX1_greatestOrder 22 = .ok (.getfield 26, 3) := by decide +kernel
theorem dX1_greatestOrder_25 : decode cX1_greatestOrder 25 = .ok (.iload_n 2, 1) := by decide +kernel
theorem dX1_greatestOrder_26 : decode cX1_greatestOrder 26 = .ok (.iaload, 1) := by decide +kernel
theorem dX1_greatestOrder_27 : decode cX1_greatestOrder 27 = .ok (.ifCond .eq 14, 3) := by decide +kernel
theorem dX1_greatestOrder_30 : decode cX1_greatestOrder 30 = .ok (.iload_n 1, 1) := by decide +kernel
theorem dX1_greatestOrder_31 : decode cX1_greatestOrder 31 = .ok (.aload_n 0, 1) := by decide +kernel
theorem dX1_greatestOrder_32 : decode cX1_greatestOrder 32 = .ok (.getfield 29, 3) := by decide +kernel
theorem dX1_greatestOrder_35 : decode cX1_greatestOrder 35 = .ok (.iload_n 2, 1) := by decide +kernel
theorem dX1_greatestOrder_36 : decode cX1_greatestOrder 36 = .ok (.iaload, 1) := by decide +kernel
theorem dX1_greatestOrder_37 : decode cX1_greatestOrder 37 = .ok (.invokestatic 107, 3) := by decide +kernel
theorem dX1_greatestOrder_40 : decode cX1_greatestOrder 40 = .ok (.istore_n 1, 1) := by decide +kernel
theorem dX1_greatestOrder_41 : decode cX1_greatestOrder 41 = .ok (.iinc 2 1, 3) := by decide +kernel
theorem dX1_greatestOrder_44 : decode cX1_greatestOrder 44 = .ok (.goto (-40), 3) := by decide +kernel
theorem dX1_greatestOrder_47 : decode cX1_greatestOrder 47 = .ok (.iload_n 1, 1) := by decide +kernel
theorem dX1_greatestOrder_48 : decode cX1_greatestOrder 48 = .ok (.ireturn, 1) := by decide +kernel
theorem dX1_wholeSum_0 : decode cX1_wholeSum 0 = .ok (.lconst 0, 1) := by decide +kernel
theorem dX1_wholeSum_1 : decode cX1_wholeSum 1 = .ok (.lstore_n 1, 1) := by decide +kernel
theorem dX1_wholeSum_2 : decode cX1_wholeSum 2 = .ok (.iconst 0, 1) := by decide +kernel
theorem dX1_wholeSum_3 : decode cX1_wholeSum 3 = .ok (.istore_n 3, 1) := by decide +kernel
theorem dX1_wholeSum_4 : decode cX1_wholeSum 4 = .ok (.iload_n 3, 1) := by decide +kernel
theorem dX1_wholeSum_5 : decode cX1_wholeSum 5 = .ok (.aload_n 0, 1) := by decide +kernel
theorem dX1_wholeSum_6 : decode cX1_wholeSum 6 = .ok (.getfield 43, 3) := by decide +kernel
theorem dX1_wholeSum_9 : decode cX1_wholeSum 9 = .ok (.if_icmp .gt 17, 3) := by decide +kernel
theorem dX1_wholeSum_12 : decode cX1_wholeSum 12 = .ok (.lload_n 1, 1) := by decide +kernel
theorem dX1_wholeSum_13 : decode cX1_wholeSum 13 = .ok (.aload_n 0, 1) := by decide +kernel
theorem dX1_wholeSum_14 : decode cX1_wholeSum 14 = .ok (.iload_n 3, 1) := by decide +kernel
theorem dX1_wholeSum_15 : decode cX1_wholeSum 15 = .ok (.invokevirtual 156, 3) := by decide +kernel
theorem dX1_wholeSum_18 : decode cX1_wholeSum 18 = .ok (.ladd, 1) := by decide +kernel
theorem dX1_wholeSum_19 : decode cX1_wholeSum 19 = .ok (.lstore_n 1, 1) := by decide +kernel
theorem dX1_wholeSum_20 : decode cX1_wholeSum 20 = .ok (.iinc 3 1, 3) := by decide +kernel
theorem dX1_wholeSum_23 : decode cX1_wholeSum 23 = .ok (.goto (-19), 3) := by decide +kernel
theorem dX1_wholeSum_26 : decode cX1_wholeSum 26 = .ok (.lload_n 1, 1) := by decide +kernel
theorem dX1_wholeSum_27 : decode cX1_wholeSum 27 = .ok (.lreturn, 1) := by decide +kernel
theorem dX1_giveOf_0 : decode cX1_giveOf 0 = .ok (.aload_n 0, 1) := by decide +kernel
theorem dX1_giveOf_1 : decode cX1_giveOf 1 = .ok (.getfield 29, 3) := by decide +kernel
theorem dX1_giveOf_4 : decode cX1_giveOf 4 = .ok (.iload_n 1, 1) := by decide +kernel
theorem dX1_giveOf_5 : decode cX1_giveOf 5 = .ok (.iaload, 1) := by decide +kernel
theorem dX1_giveOf_6 : decode cX1_giveOf 6 = .ok (.aload_n 0, 1) := by decide +kernel
theorem dX1_giveOf_7 : decode cX1_giveOf 7 = .ok (.getfield 53, 3) := by decide +kernel
theorem dX1_giveOf_10 : decode cX1_giveOf 10 = .ok (.if_icmp .ne 13, 3) := by decide +kernel
theorem dX1_giveOf_13 : decode cX1_giveOf 13 = .ok (.aload_n 0, 1) := by decide +kernel
theorem dX1_giveOf_14 : decode cX1_giveOf 14 = .ok (.getfield 26, 3) := by decide +kernel
theorem dX1_giveOf_17 : decode cX1_giveOf 17 = .ok (.iload_n 1, 1) := by decide +kernel
theorem dX1_giveOf_18 : decode cX1_giveOf 18 = .ok (.iaload, 1) := by decide +kernel
theorem dX1_giveOf_19 : decode cX1_giveOf 19 = .ok (.i2l, 1) := by decide +kernel
theorem dX1_giveOf_20 : decode cX1_giveOf 20 = .ok (.goto 4, 3) := by decide +kernel
theorem dX1_giveOf_23 : decode cX1_giveOf 23 = .ok (.lconst 0, 1) := by decide +kernel
theorem dX1_giveOf_24 : decode cX1_giveOf 24 = .ok (.lreturn, 1) := by decide +kernel
theorem dX1_share_0 : decode cX1_share 0 = .ok (.aload_n 0, 1) := by decide +kernel
theorem dX1_share_1 : decode cX1_share 1 = .ok (.invokevirtual 160, 3) := by decide +kernel
theorem dX1_share_4 : decode cX1_share 4 = .ok (.lstore_n 1, 1) := by decide +kernel
theorem dX1_share_5 : decode cX1_share 5 = .ok (.aload_n 0, 1) := by decide +kernel
theorem dX1_share_6 : decode cX1_share 6 = .ok (.getfield 50, 3) := by decide +kernel
theorem dX1_share_9 : decode cX1_share 9 = .ok (.invokestatic 163, 3) := by decide +kernel
theorem dX1_share_12 : decode cX1_share 12 = .ok (.lstore_n 3, 1) := by decide +kernel
theorem dX1_share_13 : decode cX1_share 13 = .ok (.lload_n 3, 1) := by decide +kernel
theorem dX1_share_14 : decode cX1_share 14 = .ok (.lstore 5, 2) := by decide +kernel
theorem dX1_share_16 : decode cX1_share 16 = .ok (.aload_n 0, 1) := by decide +kernel
theorem dX1_share_17 : decode cX1_share 17 = .ok (.getfield 53, 3) := by decide +kernel
theorem dX1_share_20 : decode cX1_share 20 = .ok (.iconst (-1), 1) := by decide +kernel
theorem dX1_share_21 : decode cX1_share 21 = .ok (.if_icmp .ne 9, 3) := by decide +kernel
theorem dX1_share_24 : decode cX1_share 24 = .ok (.lconst 0, 1) := by decide +kernel
theorem dX1_share_25 : decode cX1_share 25 = .ok (.lstore 5, 2) := by decide +kernel
theorem dX1_share_27 : decode cX1_share 27 = .ok (.goto 26, 3) := by decide +kernel
theorem dX1_share_30 : decode cX1_share 30 = .ok (.aload_n 0, 1) := by decide +kernel
theorem dX1_share_31 : decode cX1_share 31 = .ok (.getfield 53, 3) := by decide +kernel
theorem dX1_share_34 : decode cX1_share 34 = .ok (.ifCond .ne 19, 3) := by decide +kernel
theorem dX1_share_37 : decode cX1_share 37 = .ok (.aload_n 0, 1) := by decide +kernel
theorem dX1_share_38 : decode cX1_share 38 = .ok (.getfield 50, 3) := by decide +kernel
theorem dX1_share_41 : decode cX1_share 41 = .ok (.lconst 0, 1) := by decide +kernel
theorem dX1_share_42 : decode cX1_share 42 = .ok (.lcmp, 1) := by decide +kernel
theorem dX1_share_43 : decode cX1_share 43 = .ok (.ifCond .ge 10, 3) := by decide +kernel
theorem dX1_share_46 : decode cX1_share 46 = .ok (.lload_n 3, 1) := by decide +kernel
theorem dX1_share_47 : decode cX1_share 47 = .ok (.lload_n 1, 1) := by decide +kernel
theorem dX1_share_48 : decode cX1_share 48 = .ok (.invokestatic 167, 3) := by decide +kernel
theorem dX1_share_51 : decode cX1_share 51 = .ok (.lstore 5, 2) := by decide +kernel
theorem dX1_share_53 : decode cX1_share 53 = .ok (.aload_n 0, 1) := by decide +kernel
theorem dX1_share_54 : decode cX1_share 54 = .ok (.lload_n 3, 1) := by decide +kernel
theorem dX1_share_55 : decode cX1_share 55 = .ok (.lload 5, 2) := by decide +kernel
theorem dX1_share_57 : decode cX1_share 57 = .ok (.lsub, 1) := by decide +kernel
theorem dX1_share_58 : decode cX1_share 58 = .ok (.putfield 56, 3) := by decide +kernel
theorem dX1_share_61 : decode cX1_share 61 = .ok (.aload_n 0, 1) := by decide +kernel
theorem dX1_share_62 : decode cX1_share 62 = .ok (.lload 5, 2) := by decide +kernel
theorem dX1_share_64 : decode cX1_share 64 = .ok (.lload_n 1, 1) := by decide +kernel
theorem dX1_share_65 : decode cX1_share 65 = .ok (.invokevirtual 171, 3) := by decide +kernel
theorem dX1_share_68 : decode cX1_share 68 = .ok (.return_, 1) := by decide +kernel
theorem dX1_findPlaces_0 : decode cX1_findPlaces 0 = .ok (.lconst 0, 1) := by decide +kernel
theorem dX1_findPlaces_1 : decode cX1_findPlaces 1 = .ok (.lstore 5, 2) := by decide +kernel
theorem dX1_findPlaces_3 : decode cX1_findPlaces 3 = .ok (.lconst 0, 1) := by decide +kernel
theorem dX1_findPlaces_4 : decode cX1_findPlaces 4 = .ok (.lstore 7, 2) := by decide +kernel
theorem dX1_findPlaces_6 : decode cX1_findPlaces 6 = .ok (.iconst 0, 1) := by decide +kernel
theorem dX1_findPlaces_7 : decode cX1_findPlaces 7 = .ok (.istore 9, 2) := by decide +kernel
theorem dX1_findPlaces_9 : decode cX1_findPlaces 9 = .ok (.iload 9, 2) := by decide +kernel
theorem dX1_findPlaces_11 : decode cX1_findPlaces 11 = .ok (.aload_n 0, 1) := by decide +kernel
theorem dX1_findPlaces_12 : decode cX1_findPlaces 12 = .ok (.getfield 43, 3) := by decide +kernel
theorem dX1_findPlaces_15 : decode cX1_findPlaces 15 = .ok (.if_icmp .ge 93, 3) := by decide +kernel
theorem dX1_findPlaces_18 : decode cX1_findPlaces 18 = .ok (.lload 5, 2) := by decide +kernel
theorem dX1_findPlaces_20 : decode cX1_findPlaces 20 = .ok (.aload_n 0, 1) := by decide +kernel
theorem dX1_findPlaces_21 : decode cX1_findPlaces 21 = .ok (.getfield 23, 3) := by decide +kernel
theorem dX1_findPlaces_24 : decode cX1_findPlaces 24 = .ok (.iload 9, 2) := by decide +kernel
theorem dX1_findPlaces_26 : decode cX1_findPlaces 26 = .ok (.iaload, 1) := by decide +kernel
theorem dX1_findPlaces_27 : decode cX1_findPlaces 27 = .ok (.i2l, 1) := by decide +kernel
theorem dX1_findPlaces_28 : decode cX1_findPlaces 28 = .ok (.ladd, 1) := by decide +kernel
theorem dX1_findPlaces_29 : decode cX1_findPlaces 29 = .ok (.lstore 5, 2) := by decide +kernel
theorem dX1_findPlaces_31 : decode cX1_findPlaces 31 = .ok (.lload 7, 2) := by decide +kernel
theorem dX1_findPlaces_33 : decode cX1_findPlaces 33 = .ok (.aload_n 0, 1) := by decide +kernel
theorem dX1_findPlaces_34 : decode cX1_findPlaces 34 = .ok (.iload 9, 2) := by decide +kernel
theorem dX1_findPlaces_36 : decode cX1_findPlaces 36 = .ok (.invokevirtual 156, 3) := by decide +kernel
theorem dX1_findPlaces_39 : decode cX1_findPlaces 39 = .ok (.ladd, 1) := by decide +kernel
theorem dX1_findPlaces_40 : decode cX1_findPlaces 40 = .ok (.lstore 7, 2) := by decide +kernel
theorem dX1_findPlaces_42 : decode cX1_findPlaces 42 = .ok (.lload_n 3, 1) := by decide +kernel
theorem dX1_findPlaces_43 : decode cX1_findPlaces 43 = .ok (.lconst 0, 1) := by decide +kernel
theorem dX1_findPlaces_44 : decode cX1_findPlaces 44 = .ok (.lcmp, 1) := by decide +kernel
theorem dX1_findPlaces_45 : decode cX1_findPlaces 45 = .ok (.ifCond .ne 7, 3) := by decide +kernel
theorem dX1_findPlaces_48 : decode cX1_findPlaces 48 = .ok (.lconst 0, 1) := by decide +kernel
theorem dX1_findPlaces_49 : decode cX1_findPlaces 49 = .ok (.goto 9, 3) := by decide +kernel
theorem dX1_findPlaces_52 : decode cX1_findPlaces 52 = .ok (.lload_n 1, 1) := by decide +kernel
theorem dX1_findPlaces_53 : decode cX1_findPlaces 53 = .ok (.lload 7, 2) := by decide +kernel
theorem dX1_findPlaces_55 : decode cX1_findPlaces 55 = .ok (.lmul, 1) := by decide +kernel
theorem dX1_findPlaces_56 : decode cX1_findPlaces 56 = .ok (.lload_n 3, 1) := by decide +kernel
theorem dX1_findPlaces_57 : decode cX1_findPlaces 57 = .ok (.ldiv, 1) := by decide +kernel
theorem dX1_findPlaces_58 : decode cX1_findPlaces 58 = .ok (.lstore 10, 2) := by decide +kernel
theorem dX1_findPlaces_60 : decode cX1_findPlaces 60 = .ok (.aload_n 0, 1) := by decide +kernel
theorem dX1_findPlaces_61 : decode cX1_findPlaces 61 = .ok (.getfield 19, 3) := by decide +kernel
theorem dX1_findPlaces_64 : decode cX1_findPlaces 64 = .ok (.iload 9, 2) := by decide +kernel
theorem dX1_findPlaces_66 : decode cX1_findPlaces 66 = .ok (.aload_n 0, 1) := by decide +kernel
theorem dX1_findPlaces_67 : decode cX1_findPlaces 67 = .ok (.getfield 50, 3) := by decide +kernel
theorem dX1_findPlaces_70 : decode cX1_findPlaces 70 = .ok (.lconst 0, 1) := by decide +kernel
theorem dX1_findPlaces_71 : decode cX1_findPlaces 71 = .ok (.lcmp, 1) := by decide +kernel
theorem dX1_findPlaces_72 : decode cX1_findPlaces 72 = .ok (.ifCond .ge 11, 3) := by decide +kernel
theorem dX1_findPlaces_75 : decode cX1_findPlaces 75 = .ok (.lload 5, 2) := by decide +kernel
theorem dX1_findPlaces_77 : decode cX1_findPlaces 77 = .ok (.lload 10, 2) := by decide +kernel
theorem dX1_findPlaces_79 : decode cX1_findPlaces 79 = .ok (.lsub, 1) := by decide +kernel
theorem dX1_findPlaces_80 : decode cX1_findPlaces 80 = .ok (.goto 8, 3) := by decide +kernel
theorem dX1_findPlaces_83 : decode cX1_findPlaces 83 = .ok (.lload 5, 2) := by decide +kernel
theorem dX1_findPlaces_85 : decode cX1_findPlaces 85 = .ok (.lload 10, 2) := by decide +kernel
theorem dX1_findPlaces_87 : decode cX1_findPlaces 87 = .ok (.ladd, 1) := by decide +kernel
theorem dX1_findPlaces_88 : decode cX1_findPlaces 88 = .ok (.lastore, 1) := by decide +kernel
theorem dX1_findPlaces_89 : decode cX1_findPlaces 89 = .ok (.lload 5, 2) := by decide +kernel
theorem dX1_findPlaces_91 : decode cX1_findPlaces 91 = .ok (.aload_n 0, 1) := by decide +kernel
theorem dX1_findPlaces_92 : decode cX1_findPlaces 92 = .ok (.getfield 9, 3) := by decide +kernel
theorem dX1_findPlaces_95 : decode cX1_findPlaces 95 = .ok (.iload 9, 2) := by decide +kernel
theorem dX1_findPlaces_97 : decode cX1_findPlaces 97 = .ok (.iaload, 1) := by decide +kernel
theorem dX1_findPlaces_98 : decode cX1_findPlaces 98 = .ok (.i2l, 1) := by decide +kernel
theorem dX1_findPlaces_99 : decode cX1_findPlaces 99 = .ok (.ladd, 1) := by decide +kernel
theorem dX1_findPlaces_100 : decode cX1_findPlaces 100 = .ok (.lstore 5, 2) := by decide +kernel
theorem dX1_findPlaces_102 : decode cX1_findPlaces 102 = .ok (.iinc 9 1, 3) := by decide +kernel
theorem dX1_findPlaces_105 : decode cX1_findPlaces 105 = .ok (.goto (-96), 3) := by decide +kernel
theorem dX1_findPlaces_108 : decode cX1_findPlaces 108 = .ok (.return_, 1) := by decide +kernel
theorem dX1_setWidth_0 : decode cX1_setWidth 0 = .ok (.aload_n 0, 1) := by decide +kernel
theorem dX1_setWidth_1 : decode cX1_setWidth 1 = .ok (.getfield 46, 3) := by decide +kernel
theorem dX1_setWidth_4 : decode cX1_setWidth 4 = .ok (.aload_n 0, 1) := by decide +kernel
theorem dX1_setWidth_5 : decode cX1_setWidth 5 = .ok (.getfield 50, 3) := by decide +kernel
theorem dX1_setWidth_8 : decode cX1_setWidth 8 = .ok (.ladd, 1) := by decide +kernel
theorem dX1_setWidth_9 : decode cX1_setWidth 9 = .ok (.lreturn, 1) := by decide +kernel
theorem dX1_isNestable_0 : decode cX1_isNestable 0 = .ok (.aload_n 0, 1) := by decide +kernel
theorem dX1_isNestable_1 : decode cX1_isNestable 1 = .ok (.getfield 39, 3) := by decide +kernel
theorem dX1_isNestable_4 : decode cX1_isNestable 4 = .ok (.ifCond .le 27, 3) := by decide +kernel
theorem dX1_isNestable_7 : decode cX1_isNestable 7 = .ok (.aload_n 0, 1) := by decide +kernel
theorem dX1_isNestable_8 : decode cX1_isNestable 8 = .ok (.invokevirtual 80, 3) := by decide +kernel
theorem dX1_isNestable_11 : decode cX1_isNestable 11 = .ok (.lconst 0, 1) := by decide +kernel
theorem dX1_isNestable_12 : decode cX1_isNestable 12 = .ok (.lcmp, 1) := by decide +kernel
theorem dX1_isNestable_13 : decode cX1_isNestable 13 = .ok (.ifCond .lt 18, 3) := by decide +kernel
theorem dX1_isNestable_16 : decode cX1_isNestable 16 = .ok (.aload_n 0, 1) := by decide +kernel
theorem dX1_isNestable_17 : decode cX1_isNestable 17 = .ok (.invokevirtual 80, 3) := by decide +kernel
theorem dX1_isNestable_20 : decode cX1_isNestable 20 = .ok (.ldc2_w 175, 3) := by decide +kernel
theorem dX1_isNestable_23 : decode cX1_isNestable 23 = .ok (.lcmp, 1) := by decide +kernel
theorem dX1_isNestable_24 : decode cX1_isNestable 24 = .ok (.ifCond .gt 7, 3) := by decide +kernel
theorem dX1_isNestable_27 : decode cX1_isNestable 27 = .ok (.iconst 1, 1) := by decide +kernel
theorem dX1_isNestable_28 : decode cX1_isNestable 28 = .ok (.goto 4, 3) := by decide +kernel
theorem dX1_isNestable_31 : decode cX1_isNestable 31 = .ok (.iconst 0, 1) := by decide +kernel
theorem dX1_isNestable_32 : decode cX1_isNestable 32 = .ok (.ireturn, 1) := by decide +kernel
theorem dX1_hasColumn_0 : decode cX1_hasColumn 0 = .ok (.iload_n 1, 1) := by decide +kernel
theorem dX1_hasColumn_1 : decode cX1_hasColumn 1 = .ok (.iconst 0, 1) := by decide +kernel
theorem dX1_hasColumn_2 : decode cX1_hasColumn 2 = .ok (.aload_n 0, 1) := by decide +kernel
theorem dX1_hasColumn_3 : decode cX1_hasColumn 3 = .ok (.getfield 43, 3) := by decide +kernel
theorem dX1_hasColumn_6 : decode cX1_hasColumn 6 = .ok (.iconst 1, 1) := by decide +kernel
theorem dX1_hasColumn_7 : decode cX1_hasColumn 7 = .ok (.isub, 1) := by decide +kernel
theorem dX1_hasColumn_8 : decode cX1_hasColumn 8 = .ok (.invokestatic 177, 3) := by decide +kernel
theorem dX1_hasColumn_11 : decode cX1_hasColumn 11 = .ok (.ireturn, 1) := by decide +kernel
theorem dX1_boxPlace_0 : decode cX1_boxPlace 0 = .ok (.aload_n 0, 1) := by decide +kernel
theorem dX1_boxPlace_1 : decode cX1_boxPlace 1 = .ok (.iload_n 1, 1) := by decide +kernel
theorem dX1_boxPlace_2 : decode cX1_boxPlace 2 = .ok (.iload_n 2, 1) := by decide +kernel
theorem dX1_boxPlace_3 : decode cX1_boxPlace 3 = .ok (.iadd, 1) := by decide +kernel
theorem dX1_boxPlace_4 : decode cX1_boxPlace 4 = .ok (.iconst 1, 1) := by decide +kernel
theorem dX1_boxPlace_5 : decode cX1_boxPlace 5 = .ok (.isub, 1) := by decide +kernel
theorem dX1_boxPlace_6 : decode cX1_boxPlace 6 = .ok (.invokevirtual 181, 3) := by decide +kernel
theorem dX1_boxPlace_9 : decode cX1_boxPlace 9 = .ok (.ifCond .eq 12, 3) := by decide +kernel
theorem dX1_boxPlace_12 : decode cX1_boxPlace 12 = .ok (.aload_n 0, 1) := by decide +kernel
theorem dX1_boxPlace_13 : decode cX1_boxPlace 13 = .ok (.getfield 19, 3) := by decide +kernel
theorem dX1_boxPlace_16 : decode cX1_boxPlace 16 = .ok (.iload_n 1, 1) := by decide +kernel
theorem dX1_boxPlace_17 : decode cX1_boxPlace 17 = .ok (.laload, 1) := by decide +kernel
theorem dX1_boxPlace_18 : decode cX1_boxPlace 18 = .ok (.goto 4, 3) := by decide +kernel
theorem dX1_boxPlace_21 : decode cX1_boxPlace 21 = .ok (.lconst 0, 1) := by decide +kernel
theorem dX1_boxPlace_22 : decode cX1_boxPlace 22 = .ok (.lreturn, 1) := by decide +kernel
theorem dX1_boxWidth_0 : decode cX1_boxWidth 0 = .ok (.iload_n 1, 1) := by decide +kernel
theorem dX1_boxWidth_1 : decode cX1_boxWidth 1 = .ok (.iload_n 2, 1) := by decide +kernel
theorem dX1_boxWidth_2 : decode cX1_boxWidth 2 = .ok (.iadd, 1) := by decide +kernel
theorem dX1_boxWidth_3 : decode cX1_boxWidth 3 = .ok (.iconst 1, 1) := by decide +kernel
theorem dX1_boxWidth_4 : decode cX1_boxWidth 4 = .ok (.isub, 1) := by decide +kernel
theorem dX1_boxWidth_5 : decode cX1_boxWidth 5 = .ok (.istore_n 3, 1) := by decide +kernel
theorem dX1_boxWidth_6 : decode cX1_boxWidth 6 = .ok (.aload_n 0, 1) := by decide +kernel
theorem dX1_boxWidth_7 : decode cX1_boxWidth 7 = .ok (.iload_n 3, 1) := by decide +kernel
theorem dX1_boxWidth_8 : decode cX1_boxWidth 8 = .ok (.invokevirtual 181, 3) := by decide +kernel
theorem dX1_boxWidth_11 : decode cX1_boxWidth 11 = .ok (.ifCond .eq 27, 3) := by decide +kernel
theorem dX1_boxWidth_14 : decode cX1_boxWidth 14 = .ok (.aload_n 0, 1) := by decide +kernel
theorem dX1_boxWidth_15 : decode cX1_boxWidth 15 = .ok (.getfield 19, 3) := by decide +kernel
theorem dX1_boxWidth_18 : decode cX1_boxWidth 18 = .ok (.iload_n 3, 1) := by decide +kernel
theorem dX1_boxWidth_19 : decode cX1_boxWidth 19 = .ok (.laload, 1) := by decide +kernel
theorem dX1_boxWidth_20 : decode cX1_boxWidth 20 = .ok (.aload_n 0, 1) := by decide +kernel
theorem dX1_boxWidth_21 : decode cX1_boxWidth 21 = .ok (.getfield 9, 3) := by decide +kernel
theorem dX1_boxWidth_24 : decode cX1_boxWidth 24 = .ok (.iload_n 3, 1) := by decide +kernel
theorem dX1_boxWidth_25 : decode cX1_boxWidth 25 = .ok (.iaload, 1) := by decide +kernel
theorem dX1_boxWidth_26 : decode cX1_boxWidth 26 = .ok (.i2l, 1) := by decide +kernel
theorem dX1_boxWidth_27 : decode cX1_boxWidth 27 = .ok (.ladd, 1) := by decide +kernel
theorem dX1_boxWidth_28 : decode cX1_boxWidth 28 = .ok (.aload_n 0, 1) := by decide +kernel
theorem dX1_boxWidth_29 : decode cX1_boxWidth 29 = .ok (.getfield 19, 3) := by decide +kernel
theorem dX1_boxWidth_32 : decode cX1_boxWidth 32 = .ok (.iload_n 1, 1) := by decide +kernel
theorem dX1_boxWidth_33 : decode cX1_boxWidth 33 = .ok (.laload, 1) := by decide +kernel
theorem dX1_boxWidth_34 : decode cX1_boxWidth 34 = .ok (.lsub, 1) := by decide +kernel
theorem dX1_boxWidth_35 : decode cX1_boxWidth 35 = .ok (.goto 4, 3) := by decide +kernel
theorem dX1_boxWidth_38 : decode cX1_boxWidth 38 = .ok (.lconst 0, 1) := by decide +kernel
theorem dX1_boxWidth_39 : decode cX1_boxWidth 39 = .ok (.lreturn, 1) := by decide +kernel
theorem dX1_tell_0 : decode cX1_tell 0 = .ok (.iload_n 1, 1) := by decide +kernel
theorem dX1_tell_1 : decode cX1_tell 1 = .ok (.tableswitch 63 6 10 #[35, 41, 46, 51, 57], 35) := by decide +kernel
theorem dX1_tell_36 : decode cX1_tell 36 = .ok (.aload_n 0, 1) := by decide +kernel
theorem dX1_tell_37 : decode cX1_tell 37 = .ok (.getfield 43, 3) := by decide +kernel
theorem dX1_tell_40 : decode cX1_tell 40 = .ok (.i2l, 1) := by decide +kernel
theorem dX1_tell_41 : decode cX1_tell 41 = .ok (.lreturn, 1) := by decide +kernel
theorem dX1_tell_42 : decode cX1_tell 42 = .ok (.aload_n 0, 1) := by decide +kernel
theorem dX1_tell_43 : decode cX1_tell 43 = .ok (.getfield 46, 3) := by decide +kernel
theorem dX1_tell_46 : decode cX1_tell 46 = .ok (.lreturn, 1) := by decide +kernel
theorem dX1_tell_47 : decode cX1_tell 47 = .ok (.aload_n 0, 1) := by decide +kernel
theorem dX1_tell_48 : decode cX1_tell 48 = .ok (.getfield 50, 3) := by decide +kernel
theorem dX1_tell_51 : decode cX1_tell 51 = .ok (.lreturn, 1) := by decide +kernel
theorem dX1_tell_52 : decode cX1_tell 52 = .ok (.aload_n 0, 1) := by decide +kernel
theorem dX1_tell_53 : decode cX1_tell 53 = .ok (.getfield 39, 3) := by decide +kernel
theorem dX1_tell_56 : decode cX1_tell 56 = .ok (.i2l, 1) := by decide +kernel
theorem dX1_tell_57 : decode cX1_tell 57 = .ok (.lreturn, 1) := by decide +kernel
theorem dX1_tell_58 : decode cX1_tell 58 = .ok (.aload_n 0, 1) := by decide +kernel
theorem dX1_tell_59 : decode cX1_tell 59 = .ok (.getfield 53, 3) := by decide +kernel
theorem dX1_tell_62 : decode cX1_tell 62 = .ok (.i2l, 1) := by decide +kernel
theorem dX1_tell_63 : decode cX1_tell 63 = .ok (.lreturn, 1) := by decide +kernel
theorem dX1_tell_64 : decode cX1_tell 64 = .ok (.aload_n 0, 1) := by decide +kernel
theorem dX1_tell_65 : decode cX1_tell 65 = .ok (.getfield 56, 3) := by decide +kernel
theorem dX1_tell_68 : decode cX1_tell 68 = .ok (.lreturn, 1) := by decide +kernel
theorem dX2_init_0 : decode cX2_init 0 = .ok (.aload_n 0, 1) := by decide +kernel
theorem dX2_init_1 : decode cX2_init 1 = .ok (.invokespecial 3, 3) := by decide +kernel
theorem dX2_init_4 : decode cX2_init 4 = .ok (.aload_n 0, 1) := by decide +kernel
theorem dX2_init_5 : decode cX2_init 5 = .ok (.bipush 24, 2) := by decide +kernel
theorem dX2_init_7 : decode cX2_init 7 = .ok (.bipush 9, 2) := by decide +kernel
theorem dX2_init_9 : decode cX2_init 9 = .ok (.multianewarray 9 2, 4) := by decide +kernel
theorem dX2_init_13 : decode cX2_init 13 = .ok (.putfield 11, 3) := by decide +kernel
theorem dX2_init_16 : decode cX2_init 16 = .ok (.return_, 1) := by decide +kernel
theorem dX2_clear_0 : decode cX2_clear 0 = .ok (.iconst 0, 1) := by decide +kernel
theorem dX2_clear_1 : decode cX2_clear 1 = .ok (.istore_n 1, 1) := by decide +kernel
theorem dX2_clear_2 : decode cX2_clear 2 = .ok (.iload_n 1, 1) := by decide +kernel
theorem dX2_clear_3 : decode cX2_clear 3 = .ok (.bipush 24, 2) := by decide +kernel
theorem dX2_clear_5 : decode cX2_clear 5 = .ok (.if_icmp .ge 19, 3) := by decide +kernel
theorem dX2_clear_8 : decode cX2_clear 8 = .ok (.aload_n 0, 1) := by decide +kernel
theorem dX2_clear_9 : decode cX2_clear 9 = .ok (.getfield 11, 3) := by decide +kernel
theorem dX2_clear_12 : decode cX2_clear 12 = .ok (.iload_n 1, 1) := by decide +kernel
theorem dX2_clear_13 : decode cX2_clear 13 = .ok (.aaload, 1) := by decide +kernel
theorem dX2_clear_14 : decode cX2_clear 14 = .ok (.iconst (-1), 1) := by decide +kernel
theorem dX2_clear_15 : decode cX2_clear 15 = .ok (.invokestatic 16, 3) := by decide +kernel
theorem dX2_clear_18 : decode cX2_clear 18 = .ok (.iinc 1 1, 3) := by decide +kernel
theorem dX2_clear_21 : decode cX2_clear 21 = .ok (.goto (-19), 3) := by decide +kernel
theorem dX2_clear_24 : decode cX2_clear 24 = .ok (.return_, 1) := by decide +kernel
theorem dX2_add_0 : decode cX2_add 0 = .ok (.aload_n 0, 1) := by decide +kernel
theorem dX2_add_1 : decode cX2_add 1 = .ok (.getfield 11, 3) := by decide +kernel
theorem dX2_add_4 : decode cX2_add 4 = .ok (.iload_n 1, 1) := by decide +kernel
theorem dX2_add_5 : decode cX2_add 5 = .ok (.aaload, 1) := by decide +kernel
theorem dX2_add_6 : decode cX2_add 6 = .ok (.iload_n 2, 1) := by decide +kernel
theorem dX2_add_7 : decode cX2_add 7 = .ok (.aload_n 0, 1) := by decide +kernel
theorem dX2_add_8 : decode cX2_add 8 = .ok (.getfield 11, 3) := by decide +kernel
theorem dX2_add_11 : decode cX2_add 11 = .ok (.iload_n 1, 1) := by decide +kernel
theorem dX2_add_12 : decode cX2_add 12 = .ok (.aaload, 1) := by decide +kernel
theorem dX2_add_13 : decode cX2_add 13 = .ok (.iload_n 2, 1) := by decide +kernel
theorem dX2_add_14 : decode cX2_add 14 = .ok (.iaload, 1) := by decide +kernel
theorem dX2_add_15 : decode cX2_add 15 = .ok (.iload_n 3, 1) := by decide +kernel
theorem dX2_add_16 : decode cX2_add 16 = .ok (.invokestatic 22, 3) := by decide +kernel
theorem dX2_add_19 : decode cX2_add 19 = .ok (.iastore, 1) := by decide +kernel
theorem dX2_add_20 : decode cX2_add 20 = .ok (.return_, 1) := by decide +kernel
theorem dX2_over_0 : decode cX2_over 0 = .ok (.aload_n 0, 1) := by decide +kernel
theorem dX2_over_1 : decode cX2_over 1 = .ok (.getfield 11, 3) := by decide +kernel
theorem dX2_over_4 : decode cX2_over 4 = .ok (.iload_n 1, 1) := by decide +kernel
theorem dX2_over_5 : decode cX2_over 5 = .ok (.aaload, 1) := by decide +kernel
theorem dX2_over_6 : decode cX2_over 6 = .ok (.iconst 1, 1) := by decide +kernel
theorem dX2_over_7 : decode cX2_over 7 = .ok (.iaload, 1) := by decide +kernel
theorem dX2_over_8 : decode cX2_over 8 = .ok (.ireturn, 1) := by decide +kernel
theorem dX2_moveOn_0 : decode cX2_moveOn 0 = .ok (.iconst 2, 1) := by decide +kernel
theorem dX2_moveOn_1 : decode cX2_moveOn 1 = .ok (.istore_n 3, 1) := by decide +kernel
theorem dX2_moveOn_2 : decode cX2_moveOn 2 = .ok (.iload_n 3, 1) := by decide +kernel
theorem dX2_moveOn_3 : decode cX2_moveOn 3 = .ok (.bipush 8, 2) := by decide +kernel
theorem dX2_moveOn_5 : decode cX2_moveOn 5 = .ok (.if_icmp .gt 51, 3) := by decide +kernel
theorem dX2_moveOn_8 : decode cX2_moveOn 8 = .ok (.aload_n 0, 1) := by decide +kernel
theorem dX2_moveOn_9 : decode cX2_moveOn 9 = .ok (.getfield 11, 3) := by decide +kernel
theorem dX2_moveOn_12 : decode cX2_moveOn 12 = .ok (.iload_n 1, 1) := by decide +kernel
theorem dX2_moveOn_13 : decode cX2_moveOn 13 = .ok (.aaload, 1) := by decide +kernel
theorem dX2_moveOn_14 : decode cX2_moveOn 14 = .ok (.iload_n 3, 1) := by decide +kernel
theorem dX2_moveOn_15 : decode cX2_moveOn 15 = .ok (.iaload, 1) := by decide +kernel
theorem dX2_moveOn_16 : decode cX2_moveOn 16 = .ok (.istore 4, 2) := by decide +kernel
theorem dX2_moveOn_18 : decode cX2_moveOn 18 = .ok (.iload 4, 2) := by decide +kernel
theorem dX2_moveOn_20 : decode cX2_moveOn 20 = .ok (.iconst (-1), 1) := by decide +kernel
theorem dX2_moveOn_21 : decode cX2_moveOn 21 = .ok (.if_icmp .eq 29, 3) := by decide +kernel
theorem dX2_moveOn_24 : decode cX2_moveOn 24 = .ok (.iload_n 1, 1) := by decide +kernel
theorem dX2_moveOn_25 : decode cX2_moveOn 25 = .ok (.iconst 1, 1) := by decide +kernel
theorem dX2_moveOn_26 : decode cX2_moveOn 26 = .ok (.iadd, 1) := by decide +kernel
theorem dX2_moveOn_27 : decode cX2_moveOn 27 = .ok (.bipush 24, 2) := by decide +kernel
theorem dX2_moveOn_29 : decode cX2_moveOn 29 = .ok (.if_icmp .ge 21, 3) := by decide +kernel
theorem dX2_moveOn_32 : decode cX2_moveOn 32 = .ok (.aload_n 0, 1) := by decide +kernel
theorem dX2_moveOn_33 : decode cX2_moveOn 33 = .ok (.iload_n 1, 1) := by decide +kernel
theorem dX2_moveOn_34 : decode cX2_moveOn 34 = .ok (.iconst 1, 1) := by decide +kernel
theorem dX2_moveOn_35 : decode cX2_moveOn 35 = .ok (.iadd, 1) := by decide +kernel
theorem dX2_moveOn_36 : decode cX2_moveOn 36 = .ok (.iload_n 3, 1) := by decide +kernel
theorem dX2_moveOn_37 : decode cX2_moveOn 37 = .ok (.iconst 1, 1) := by decide +kernel
theorem dX2_moveOn_38 : decode cX2_moveOn 38 = .ok (.isub, 1) := by decide +kernel
theorem dX2_moveOn_39 : decode cX2_moveOn 39 = .ok (.iconst 0, 1) := by decide +kernel
theorem dX2_moveOn_40 : decode cX2_moveOn 40 = .ok (.iload 4, 2) := by decide +kernel
theorem dX2_moveOn_42 : decode cX2_moveOn 42 = .ok (.iload_n 2, 1) := by decide +kernel
theorem dX2_moveOn_43 : decode cX2_moveOn 43 = .ok (.isub, 1) := by decide +kernel
theorem dX2_moveOn_44 : decode cX2_moveOn 44 = .ok (.invokestatic 22, 3) := by decide +kernel
theorem dX2_moveOn_47 : decode cX2_moveOn 47 = .ok (.invokevirtual 28, 3) := by decide +kernel
theorem dX2_moveOn_50 : decode cX2_moveOn 50 = .ok (.iinc 3 1, 3) := by decide +kernel
theorem dX2_moveOn_53 : decode cX2_moveOn 53 = .ok (.goto (-51), 3) := by decide +kernel
theorem dX2_moveOn_56 : decode cX2_moveOn 56 = .ok (.return_, 1) := by decide +kernel
theorem dX3_init_0 : decode cX3_init 0 = .ok (.aload_n 0, 1) := by decide +kernel
theorem dX3_init_1 : decode cX3_init 1 = .ok (.invokespecial 3, 3) := by decide +kernel
theorem dX3_init_4 : decode cX3_init 4 = .ok (.aload_n 0, 1) := by decide +kernel
theorem dX3_init_5 : decode cX3_init 5 = .ok (.bipush 40, 2) := by decide +kernel
theorem dX3_init_7 : decode cX3_init 7 = .ok (.newarray .char, 2) := by decide +kernel
theorem dX3_init_9 : decode cX3_init 9 = .ok (.putfield 9, 3) := by decide +kernel
theorem dX3_init_12 : decode cX3_init 12 = .ok (.aload_n 0, 1) := by decide +kernel
theorem dX3_init_13 : decode cX3_init 13 = .ok (.bipush 12, 2) := by decide +kernel
theorem dX3_init_15 : decode cX3_init 15 = .ok (.newarray .int, 2) := by decide +kernel
theorem dX3_init_17 : decode cX3_init 17 = .ok (.putfield 15, 3) := by decide +kernel
theorem dX3_init_20 : decode cX3_init 20 = .ok (.aload_n 0, 1) := by decide +kernel
theorem dX3_init_21 : decode cX3_init 21 = .ok (.bipush 12, 2) := by decide +kernel
theorem dX3_init_23 : decode cX3_init 23 = .ok (.newarray .int, 2) := by decide +kernel
theorem dX3_init_25 : decode cX3_init 25 = .ok (.putfield 19, 3) := by decide +kernel
theorem dX3_init_28 : decode cX3_init 28 = .ok (.aload_n 0, 1) := by decide +kernel
theorem dX3_init_29 : decode cX3_init 29 = .ok (.iconst 0, 1) := by decide +kernel
theorem dX3_init_30 : decode cX3_init 30 = .ok (.putfield 22, 3) := by decide +kernel
theorem dX3_init_33 : decode cX3_init 33 = .ok (.aload_n 0, 1) := by decide +kernel
theorem dX3_init_34 : decode cX3_init 34 = .ok (.iconst 0, 1) := by decide +kernel
theorem dX3_init_35 : decode cX3_init 35 = .ok (.putfield 26, 3) := by decide +kernel
theorem dX3_init_38 : decode cX3_init 38 = .ok (.aload_n 0, 1) := by decide +kernel
theorem dX3_init_39 : decode cX3_init 39 = .ok (.iconst 0, 1) := by decide +kernel
theorem dX3_init_40 : decode cX3_init 40 = .ok (.putfield 30, 3) := by decide +kernel
theorem dX3_init_43 : decode cX3_init 43 = .ok (.aload_n 0, 1) := by decide +kernel
theorem dX3_init_44 : decode cX3_init 44 = .ok (.iconst (-1), 1) := by decide +kernel
theorem dX3_init_45 : decode cX3_init 45 = .ok (.putfield 33, 3) := by decide +kernel
theorem dX3_init_48 : decode cX3_init 48 = .ok (.aload_n 0, 1) := by decide +kernel
theorem dX3_init_49 : decode cX3_init 49 = .ok (.iconst 0, 1) := by decide +kernel
theorem dX3_init_50 : decode cX3_init 50 = .ok (.putfield 36, 3) := by decide +kernel
theorem dX3_init_53 : decode cX3_init 53 = .ok (.return_, 1) := by decide +kernel
theorem dX3_append_0 : decode cX3_append 0 = .ok (.iload_n 1, 1) := by decide +kernel
theorem dX3_append_1 : decode cX3_append 1 = .ok (.invokestatic 39, 3) := by decide +kernel
theorem dX3_append_4 : decode cX3_append 4 = .ok (.ifCond .eq 17, 3) := by decide +kernel
theorem dX3_append_7 : decode cX3_append 7 = .ok (.iload_n 2, 1) := by decide +kernel
theorem dX3_append_8 : decode cX3_append 8 = .ok (.invokestatic 39, 3) := by decide +kernel
theorem dX3_append_11 : decode cX3_append 11 = .ok (.ifCond .eq 10, 3) := by decide +kernel
theorem dX3_append_14 : decode cX3_append 14 = .ok (.iload_n 3, 1) := by decide +kernel
theorem dX3_append_15 : decode cX3_append 15 = .ok (.invokestatic 39, 3) := by decide +kernel
theorem dX3_append_18 : decode cX3_append 18 = .ok (.ifCond .ne 6, 3) := by decide +kernel
theorem dX3_append_21 : decode cX3_append 21 = .ok (.bipush (-2), 2) := by decide +kernel
theorem dX3_append_23 : decode cX3_append 23 = .ok (.ireturn, 1) := by decide +kernel
theorem dX3_append_24 : decode cX3_append 24 = .ok (.aload_n 0, 1) := by decide +kernel
theorem dX3_append_25 : decode cX3_append 25 = .ok (.getfield 26, 3) := by decide +kernel
theorem dX3_append_28 : decode cX3_append 28 = .ok (.ifCond .eq 6, 3) := by decide +kernel
theorem dX3_append_31 : decode cX3_append 31 = .ok (.bipush (-3), 2) := by decide +kernel
theorem dX3_append_33 : decode cX3_append 33 = .ok (.ireturn, 1) := by decide +kernel
theorem dX3_append_34 : decode cX3_append 34 = .ok (.aload_n 0, 1) := by decide +kernel
theorem dX3_append_35 : decode cX3_append 35 = .ok (.getfield 22, 3) := by decide +kernel
theorem dX3_append_38 : decode cX3_append 38 = .ok (.iload_n 1, 1) := by decide +kernel
theorem dX3_append_39 : decode cX3_append 39 = .ok (.invokestatic 43, 3) := by decide +kernel
theorem dX3_append_42 : decode cX3_append 42 = .ok (.iadd, 1) := by decide +kernel
theorem dX3_append_43 : decode cX3_append 43 = .ok (.iload_n 2, 1) := by decide +kernel
theorem dX3_append_44 : decode cX3_append 44 = .ok (.invokestatic 43, 3) := by decide +kernel
theorem dX3_append_47 : decode cX3_append 47 = .ok (.iadd, 1) := by decide +kernel
theorem dX3_append_48 : decode cX3_append 48 = .ok (.iload_n 3, 1) := by decide +kernel
theorem dX3_append_49 : decode cX3_append 49 = .ok (.invokestatic 43, 3) := by decide +kernel
theorem dX3_append_52 : decode cX3_append 52 = .ok (.iadd, 1) := by decide +kernel
theorem dX3_append_53 : decode cX3_append 53 = .ok (.bipush 40, 2) := by decide +kernel
theorem dX3_append_55 : decode cX3_append 55 = .ok (.if_icmp .le 6, 3) := by decide +kernel
theorem dX3_append_58 : decode cX3_append 58 = .ok (.bipush (-4), 2) := by decide +kernel
theorem dX3_append_60 : decode cX3_append 60 = .ok (.ireturn, 1) := by decide +kernel
theorem dX3_append_61 : decode cX3_append 61 = .ok (.aload_n 0, 1) := by decide +kernel
theorem dX3_append_62 : decode cX3_append 62 = .ok (.iload_n 1, 1) := by decide +kernel
theorem dX3_append_63 : decode cX3_append 63 = .ok (.invokevirtual 47, 3) := by decide +kernel
theorem dX3_append_66 : decode cX3_append 66 = .ok (.aload_n 0, 1) := by decide +kernel
theorem dX3_append_67 : decode cX3_append 67 = .ok (.iload_n 2, 1) := by decide +kernel
theorem dX3_append_68 : decode cX3_append 68 = .ok (.invokevirtual 47, 3) := by decide +kernel
theorem dX3_append_71 : decode cX3_append 71 = .ok (.aload_n 0, 1) := by decide +kernel
theorem dX3_append_72 : decode cX3_append 72 = .ok (.iload_n 3, 1) := by decide +kernel
theorem dX3_append_73 : decode cX3_append 73 = .ok (.invokevirtual 47, 3) := by decide +kernel
theorem dX3_append_76 : decode cX3_append 76 = .ok (.aload_n 0, 1) := by decide +kernel
theorem dX3_append_77 : decode cX3_append 77 = .ok (.getfield 22, 3) := by decide +kernel
theorem dX3_append_80 : decode cX3_append 80 = .ok (.ireturn, 1) := by decide +kernel
theorem dX3_byteOf_0 : decode cX3_byteOf 0 = .ok (.iload_n 0, 1) := by decide +kernel
theorem dX3_byteOf_1 : decode cX3_byteOf 1 = .ok (.iload_n 1, 1) := by decide +kernel
theorem dX3_byteOf_2 : decode cX3_byteOf 2 = .ok (.iushr, 1) := by decide +kernel
theorem dX3_byteOf_3 : decode cX3_byteOf 3 = .ok (.sipush 255, 3) := by decide +kernel
theorem dX3_byteOf_6 : decode cX3_byteOf 6 = .ok (.iand, 1) := by decide +kernel
theorem dX3_byteOf_7 : decode cX3_byteOf 7 = .ok (.ireturn, 1) := by decide +kernel
theorem dX3_hasOnlySigns_0 : decode cX3_hasOnlySigns 0 = .ok (.bipush 24, 2) := by decide +kernel
theorem dX3_hasOnlySigns_2 : decode cX3_hasOnlySigns 2 = .ok (.istore_n 1, 1) := by decide +kernel
theorem dX3_hasOnlySigns_3 : decode cX3_hasOnlySigns 3 = .ok (.iload_n 1, 1) := by decide +kernel
theorem dX3_hasOnlySigns_4 : decode cX3_hasOnlySigns 4 = .ok (.ifCond .lt 44, 3) := by decide +kernel
theorem dX3_hasOnlySigns_7 : decode cX3_hasOnlySigns 7 = .ok (.iload_n 0, 1) := by decide +kernel
theorem dX3_hasOnlySigns_8 : decode cX3_hasOnlySigns 8 = .ok (.iload_n 1, 1) := by decide +kernel
theorem dX3_hasOnlySigns_9 : decode cX3_hasOnlySigns 9 = .ok (.invokestatic 51, 3) := by decide +kernel
theorem dX3_hasOnlySigns_12 : decode cX3_hasOnlySigns 12 = .ok (.istore_n 2, 1) := by decide +kernel
theorem dX3_hasOnlySigns_13 : decode cX3_hasOnlySigns 13 = .ok (.iload_n 2, 1) := by decide +kernel
theorem dX3_hasOnlySigns_14 : decode cX3_hasOnlySigns 14 = .ok (.ifCond .eq 28, 3) := by decide +kernel
theorem dX3_hasOnlySigns_17 : decode cX3_hasOnlySigns 17 = .ok (.iload_n 2, 1) := by decide +kernel
theorem dX3_hasOnlySigns_18 : decode cX3_hasOnlySigns 18 = .ok (.bipush 35, 2) := by decide +kernel
theorem dX3_hasOnlySigns_20 : decode cX3_hasOnlySigns 20 = .ok (.if_icmp .eq 22, 3) := by decide +kernel
theorem dX3_hasOnlySigns_23 : decode cX3_hasOnlySigns 23 = .ok (.iload_n 2, 1) := by decide +kernel
theorem dX3_hasOnlySigns_24 : decode cX3_hasOnlySigns 24 = .ok (.bipush 38, 2) := by decide +kernel
theorem dX3_hasOnlySigns_26 : decode cX3_hasOnlySigns 26 = .ok (.if_icmp .eq 16, 3) := by decide +kernel
theorem dX3_hasOnlySigns_29 : decode cX3_hasOnlySigns 29 = .ok (.iload_n 2, 1) := by decide +kernel
theorem dX3_hasOnlySigns_30 : decode cX3_hasOnlySigns 30 = .ok (.bipush 97, 2) := by decide +kernel
theorem dX3_hasOnlySigns_32 : decode cX3_hasOnlySigns 32 = .ok (.bipush 122, 2) := by decide +kernel
theorem dX3_hasOnlySigns_34 : decode cX3_hasOnlySigns 34 = .ok (.invokestatic 55, 3) := by decide +kernel
theorem dX3_hasOnlySigns_37 : decode cX3_hasOnlySigns 37 = .ok (.ifCond .ne 5, 3) := by decide +kernel
theorem dX3_hasOnlySigns_40 : decode cX3_hasOnlySigns 40 = .ok (.iconst 0, 1) := by decide +kernel
theorem dX3_hasOnlySigns_41 : decode cX3_hasOnlySigns 41 = .ok (.ireturn, 1) := by decide +kernel
theorem dX3_hasOnlySigns_42 : decode cX3_hasOnlySigns 42 = .ok (.iinc 1 (-8), 3) := by decide +kernel
theorem dX3_hasOnlySigns_45 : decode cX3_hasOnlySigns 45 = .ok (.goto (-42), 3) := by decide +kernel
theorem dX3_hasOnlySigns_48 : decode cX3_hasOnlySigns 48 = .ok (.iconst 1, 1) := by decide +kernel
theorem dX3_hasOnlySigns_49 : decode cX3_hasOnlySigns 49 = .ok (.ireturn, 1) := by decide +kernel
theorem dX3_signsOf_0 : decode cX3_signsOf 0 = .ok (.iconst 0, 1) := by decide +kernel
theorem dX3_signsOf_1 : decode cX3_signsOf 1 = .ok (.istore_n 1, 1) := by decide +kernel
theorem dX3_signsOf_2 : decode cX3_signsOf 2 = .ok (.bipush 24, 2) := by decide +kernel
theorem dX3_signsOf_4 : decode cX3_signsOf 4 = .ok (.istore_n 2, 1) := by decide +kernel
theorem dX3_signsOf_5 : decode cX3_signsOf 5 = .ok (.iload_n 2, 1) := by decide +kernel
theorem dX3_signsOf_6 : decode cX3_signsOf 6 = .ok (.ifCond .lt 20, 3) := by decide +kernel
theorem dX3_signsOf_9 : decode cX3_signsOf 9 = .ok (.iload_n 0, 1) := by decide +kernel
theorem dX3_signsOf_10 : decode cX3_signsOf 10 = .ok (.iload_n 2, 1) := by decide +kernel
theorem dX3_signsOf_11 : decode cX3_signsOf 11 = .ok (.invokestatic 51, 3) := by decide +kernel
theorem dX3_signsOf_14 : decode cX3_signsOf 14 = .ok (.ifCond .eq 6, 3) := by decide +kernel
theorem dX3_signsOf_17 : decode cX3_signsOf 17 = .ok (.iinc 1 1, 3) := by decide +kernel
theorem dX3_signsOf_20 : decode cX3_signsOf 20 = .ok (.iinc 2 (-8), 3) := by decide +kernel
theorem dX3_signsOf_23 : decode cX3_signsOf 23 = .ok (.goto (-18), 3) := by decide +kernel
theorem dX3_signsOf_26 : decode cX3_signsOf 26 = .ok (.iload_n 1, 1) := by decide +kernel
theorem dX3_signsOf_27 : decode cX3_signsOf 27 = .ok (.ireturn, 1) := by decide +kernel
theorem dX3_putSigns_0 : decode cX3_putSigns 0 = .ok (.bipush 24, 2) := by decide +kernel
theorem dX3_putSigns_2 : decode cX3_putSigns 2 = .ok (.istore_n 2, 1) := by decide +kernel
theorem dX3_putSigns_3 : decode cX3_putSigns 3 = .ok (.iload_n 2, 1) := by decide +kernel
theorem dX3_putSigns_4 : decode cX3_putSigns 4 = .ok (.ifCond .lt 49, 3) := by decide +kernel
theorem dX3_putSigns_7 : decode cX3_putSigns 7 = .ok (.iload_n 1, 1) := by decide +kernel
theorem dX3_putSigns_8 : decode cX3_putSigns 8 = .ok (.iload_n 2, 1) := by decide +kernel
theorem dX3_putSigns_9 : decode cX3_putSigns 9 = .ok (.invokestatic 51, 3) := by decide +kernel
theorem dX3_putSigns_12 : decode cX3_putSigns 12 = .ok (.istore_n 3, 1) := by decide +kernel
theorem dX3_putSigns_13 : decode cX3_putSigns 13 = .ok (.iload_n 3, 1) := by decide +kernel
theorem dX3_putSigns_14 : decode cX3_putSigns 14 = .ok (.ifCond .eq 33, 3) := by decide +kernel
theorem dX3_putSigns_17 : decode cX3_putSigns 17 = .ok (.aload_n 0, 1) := by decide +kernel
theorem dX3_putSigns_18 : decode cX3_putSigns 18 = .ok (.getfield 22, 3) := by decide +kernel
theorem dX3_putSigns_21 : decode cX3_putSigns 21 = .ok (.bipush 40, 2) := by decide +kernel
theorem dX3_putSigns_23 : decode cX3_putSigns 23 = .ok (.if_icmp .ge 24, 3) := by decide +kernel
theorem dX3_putSigns_26 : decode cX3_putSigns 26 = .ok (.aload_n 0, 1) := by decide +kernel
theorem dX3_putSigns_27 : decode cX3_putSigns 27 = .ok (.getfield 9, 3) := by decide +kernel
theorem dX3_putSigns_30 : decode cX3_putSigns 30 = .ok (.aload_n 0, 1) := by decide +kernel
theorem dX3_putSigns_31 : decode cX3_putSigns 31 = .ok (.getfield 22, 3) := by decide +kernel
theorem dX3_putSigns_34 : decode cX3_putSigns 34 = .ok (.iload_n 3, 1) := by decide +kernel
theorem dX3_putSigns_35 : decode cX3_putSigns 35 = .ok (.i2c, 1) := by decide +kernel
theorem dX3_putSigns_36 : decode cX3_putSigns 36 = .ok (.castore, 1) := by decide +kernel
theorem dX3_putSigns_37 : decode cX3_putSigns 37 = .ok (.aload_n 0, 1) := by decide +kernel
theorem dX3_putSigns_38 : decode cX3_putSigns 38 = .ok (.dup, 1) := by decide +kernel
theorem dX3_putSigns_39 : decode cX3_putSigns 39 = .ok (.getfield 22, 3) := by decide +kernel
theorem dX3_putSigns_42 : decode cX3_putSigns 42 = .ok (.iconst 1, 1) := by decide +kernel
theorem dX3_putSigns_43 : decode cX3_putSigns 43 = .ok (.iadd, 1) := by decide +kernel
theorem dX3_putSigns_44 : decode cX3_putSigns 44 = .ok (.putfield 22, 3) := by decide +kernel
theorem dX3_putSigns_47 : decode cX3_putSigns 47 = .ok (.iinc 2 (-8), 3) := by decide +kernel
theorem dX3_putSigns_50 : decode cX3_putSigns 50 = .ok (.goto (-47), 3) := by decide +kernel
theorem dX3_putSigns_53 : decode cX3_putSigns 53 = .ok (.return_, 1) := by decide +kernel
theorem dX3_readTape_0 : decode cX3_readTape 0 = .ok (.aload_n 0, 1) := by decide +kernel
theorem dX3_readTape_1 : decode cX3_readTape 1 = .ok (.getfield 26, 3) := by decide +kernel
theorem dX3_readTape_4 : decode cX3_readTape 4 = .ok (.ifCond .eq 6, 3) := by decide +kernel
theorem dX3_readTape_7 : decode cX3_readTape 7 = .ok (.bipush (-3), 2) := by decide +kernel
theorem dX3_readTape_9 : decode cX3_readTape 9 = .ok (.ireturn, 1) := by decide +kernel
theorem dX3_readTape_10 : decode cX3_readTape 10 = .ok (.aload_n 0, 1) := by decide +kernel
theorem dX3_readTape_11 : decode cX3_readTape 11 = .ok (.invokevirtual 59, 3) := by decide +kernel
theorem dX3_readTape_14 : decode cX3_readTape 14 = .ok (.istore_n 1, 1) := by decide +kernel
theorem dX3_readTape_15 : decode cX3_readTape 15 = .ok (.iload_n 1, 1) := by decide +kernel
theorem dX3_readTape_16 : decode cX3_readTape 16 = .ok (.iconst (-1), 1) := by decide +kernel
theorem dX3_readTape_17 : decode cX3_readTape 17 = .ok (.if_icmp .ne 13, 3) := by decide +kernel
theorem dX3_readTape_20 : decode cX3_readTape 20 = .ok (.aload_n 0, 1) := by decide +kernel
theorem dX3_readTape_21 : decode cX3_readTape 21 = .ok (.iconst 1, 1) := by decide +kernel
theorem dX3_readTape_22 : decode cX3_readTape 22 = .ok (.putfield 26, 3) := by decide +kernel
theorem dX3_readTape_25 : decode cX3_readTape 25 = .ok (.aload_n 0, 1) := by decide +kernel
theorem dX3_readTape_26 : decode cX3_readTape 26 = .ok (.getfield 30, 3) := by decide +kernel
theorem dX3_readTape_29 : decode cX3_readTape 29 = .ok (.ireturn, 1) := by decide +kernel
theorem dX3_readTape_30 : decode cX3_readTape 30 = .ok (.aload_n 0, 1) := by decide +kernel
theorem dX3_readTape_31 : decode cX3_readTape 31 = .ok (.iconst 0, 1) := by decide +kernel
theorem dX3_readTape_32 : decode cX3_readTape 32 = .ok (.putfield 22, 3) := by decide +kernel
theorem dX3_readTape_35 : decode cX3_readTape 35 = .ok (.aload_n 0, 1) := by decide +kernel
theorem dX3_readTape_36 : decode cX3_readTape 36 = .ok (.iconst 0, 1) := by decide +kernel
theorem dX3_readTape_37 : decode cX3_readTape 37 = .ok (.putfield 30, 3) := by decide +kernel
theorem dX3_readTape_40 : decode cX3_readTape 40 = .ok (.aload_n 0, 1) := by decide +kernel
theorem dX3_readTape_41 : decode cX3_readTape 41 = .ok (.iconst (-1), 1) := by decide +kernel
theorem dX3_readTape_42 : decode cX3_readTape 42 = .ok (.putfield 33, 3) := by decide +kernel
theorem dX3_readTape_45 : decode cX3_readTape 45 = .ok (.bipush (-10), 2) := by decide +kernel
theorem dX3_readTape_47 : decode cX3_readTape 47 = .ok (.iload_n 1, 1) := by decide +kernel
theorem dX3_readTape_48 : decode cX3_readTape 48 = .ok (.isub, 1) := by decide +kernel
theorem dX3_readTape_49 : decode cX3_readTape 49 = .ok (.ireturn, 1) := by decide +kernel
theorem dX3_findWrongPlace_0 : decode cX3_findWrongPlace 0 = .ok (.aload_n 0, 1) := by decide +kernel
theorem dX3_findWrongPlace_1 : decode cX3_findWrongPlace 1 = .ok (.getfield 15, 3) := by decide +kernel
theorem dX3_findWrongPlace_4 : decode cX3_findWrongPlace 4 = .ok (.iconst 0, 1) := by decide +kernel
theorem dX3_findWrongPlace_5 : decode cX3_findWrongPlace 5 = .ok (.invokestatic 63, 3) := by decide +kernel
theorem dX3_findWrongPlace_8 : decode cX3_findWrongPlace 8 = .ok (.aload_n 0, 1) := by decide +kernel
theorem dX3_findWrongPlace_9 : decode cX3_findWrongPlace 9 = .ok (.getfield 19, 3) := by decide +kernel
theorem dX3_findWrongPlace_12 : decode cX3_findWrongPlace 12 = .ok (.iconst 0, 1) := by decide +kernel
theorem dX3_findWrongPlace_13 : decode cX3_findWrongPlace 13 = .ok (.invokestatic 63, 3) := by decide +kernel
theorem dX3_findWrongPlace_16 : decode cX3_findWrongPlace 16 = .ok (.aload_n 0, 1) := by decide +kernel
theorem dX3_findWrongPlace_17 : decode cX3_findWrongPlace 17 = .ok (.iconst 1, 1) := by decide +kernel
theorem dX3_findWrongPlace_18 : decode cX3_findWrongPlace 18 = .ok (.putfield 30, 3) := by decide +kernel
theorem dX3_findWrongPlace_21 : decode cX3_findWrongPlace 21 = .ok (.aload_n 0, 1) := by decide +kernel
theorem dX3_findWrongPlace_22 : decode cX3_findWrongPlace 22 = .ok (.iconst 0, 1) := by decide +kernel
theorem dX3_findWrongPlace_23 : decode cX3_findWrongPlace 23 = .ok (.putfield 36, 3) := by decide +kernel
theorem dX3_findWrongPlace_26 : decode cX3_findWrongPlace 26 = .ok (.iconst 0, 1) := by decide +kernel
theorem dX3_findWrongPlace_27 : decode cX3_findWrongPlace 27 = .ok (.istore_n 1, 1) := by decide +kernel
theorem dX3_findWrongPlace_28 : decode cX3_findWrongPlace 28 = .ok (.iload_n 1, 1) := by decide +kernel
theorem dX3_findWrongPlace_29 : decode cX3_findWrongPlace 29 = .ok (.aload_n 0, 1) := by decide +kernel
theorem dX3_findWrongPlace_30 : decode cX3_findWrongPlace 30 = .ok (.getfield 22, 3) := by decide +kernel
theorem dX3_findWrongPlace_33 : decode cX3_findWrongPlace 33 = .ok (.if_icmp .ge 19, 3) := by decide +kernel
theorem dX3_findWrongPlace_36 : decode cX3_findWrongPlace 36 = .ok (.aload_n 0, 1) := by decide +kernel
theorem dX3_findWrongPlace_37 : decode cX3_findWrongPlace 37 = .ok (.iload_n 1, 1) := by decide +kernel
theorem dX3_findWrongPlace_38 : decode cX3_findWrongPlace 38 = .ok (.invokevirtual 69, 3) := by decide +kernel
theorem dX3_findWrongPlace_41 : decode cX3_findWrongPlace 41 = .ok (.ifCond .ne 5, 3) := by decide +kernel
theorem dX3_findWrongPlace_44 : decode cX3_findWrongPlace 44 = .ok (.iload_n 1, 1) := by decide +kernel
theorem dX3_findWrongPlace_45 : decode cX3_findWrongPlace 45 = .ok (.ireturn, 1) := by decide +kernel
theorem dX3_findWrongPlace_46 : decode cX3_findWrongPlace 46 = .ok (.iinc 1 1, 3) := by decide +kernel
theorem dX3_findWrongPlace_49 : decode cX3_findWrongPlace 49 = .ok (.goto (-21), 3) := by decide +kernel
theorem dX3_findWrongPlace_52 : decode cX3_findWrongPlace 52 = .ok (.aload_n 0, 1) := by decide +kernel
theorem dX3_findWrongPlace_53 : decode cX3_findWrongPlace 53 = .ok (.getfield 36, 3) := by decide +kernel
theorem dX3_findWrongPlace_56 : decode cX3_findWrongPlace 56 = .ok (.ifCond .eq 7, 3) := by decide +kernel
theorem dX3_findWrongPlace_59 : decode cX3_findWrongPlace 59 = .ok (.iconst (-1), 1) := by decide +kernel
theorem dX3_findWrongPlace_60 : decode cX3_findWrongPlace 60 = .ok (.goto 7, 3) := by decide +kernel
theorem dX3_findWrongPlace_63 : decode cX3_findWrongPlace 63 = .ok (.aload_n 0, 1) := by decide +kernel
theorem dX3_findWrongPlace_64 : decode cX3_findWrongPlace 64 = .ok (.getfield 22, 3) := by decide +kernel
theorem dX3_findWrongPlace_67 : decode cX3_findWrongPlace 67 = .ok (.ireturn, 1) := by decide +kernel
theorem dX3_takeSign_0 : decode cX3_takeSign 0 = .ok (.aload_n 0, 1) := by decide +kernel
theorem dX3_takeSign_1 : decode cX3_takeSign 1 = .ok (.getfield 9, 3) := by decide +kernel
theorem dX3_takeSign_4 : decode cX3_takeSign 4 = .ok (.iload_n 1, 1) := by decide +kernel
theorem dX3_takeSign_5 : decode cX3_takeSign 5 = .ok (.caload, 1) := by decide +kernel
theorem dX3_takeSign_6 : decode cX3_takeSign 6 = .ok (.istore_n 2, 1) := by decide +kernel
theorem dX3_takeSign_7 : decode cX3_takeSign 7 = .ok (.iload_n 2, 1) := by decide +kernel
theorem dX3_takeSign_8 : decode cX3_takeSign 8 = .ok (.bipush 35, 2) := by decide +kernel
theorem dX3_takeSign_10 : decode cX3_takeSign 10 = .ok (.if_icmp .ne 23, 3) := by decide +kernel
theorem dX3_takeSign_13 : decode cX3_takeSign 13 = .ok (.aload_n 0, 1) := by decide +kernel
theorem dX3_takeSign_14 : decode cX3_takeSign 14 = .ok (.getfield 36, 3) := by decide +kernel
theorem dX3_takeSign_17 : decode cX3_takeSign 17 = .ok (.ifCond .ne 7, 3) := by decide +kernel
theorem dX3_takeSign_20 : decode cX3_takeSign 20 = .ok (.iconst 1, 1) := by decide +kernel
theorem dX3_takeSign_21 : decode cX3_takeSign 21 = .ok (.goto 4, 3) := by decide +kernel
theorem dX3_takeSign_24 : decode cX3_takeSign 24 = .ok (.iconst 0, 1) := by decide +kernel
theorem dX3_takeSign_25 : decode cX3_takeSign 25 = .ok (.istore_n 3, 1) := by decide +kernel
theorem dX3_takeSign_26 : decode cX3_takeSign 26 = .ok (.aload_n 0, 1) := by decide +kernel
theorem dX3_takeSign_27 : decode cX3_takeSign 27 = .ok (.iconst 1, 1) := by decide +kernel
theorem dX3_takeSign_28 : decode cX3_takeSign 28 = .ok (.putfield 36, 3) := by decide +kernel
theorem dX3_takeSign_31 : decode cX3_takeSign 31 = .ok (.iload_n 3, 1) := by decide +kernel
theorem dX3_takeSign_32 : decode cX3_takeSign 32 = .ok (.ireturn, 1) := by decide +kernel
theorem dX3_takeSign_33 : decode cX3_takeSign 33 = .ok (.iload_n 2, 1) := by decide +kernel
theorem dX3_takeSign_34 : decode cX3_takeSign 34 = .ok (.bipush 38, 2) := by decide +kernel
theorem dX3_takeSign_36 : decode cX3_takeSign 36 = .ok (.if_icmp .ne 23, 3) := by decide +kernel
theorem dX3_takeSign_39 : decode cX3_takeSign 39 = .ok (.aload_n 0, 1) := by decide +kernel
theorem dX3_takeSign_40 : decode cX3_takeSign 40 = .ok (.getfield 36, 3) := by decide +kernel
theorem dX3_takeSign_43 : decode cX3_takeSign 43 = .ok (.ifCond .eq 10, 3) := by decide +kernel
theorem dX3_takeSign_46 : decode cX3_takeSign 46 = .ok (.aload_n 0, 1) := by decide +kernel
theorem dX3_takeSign_47 : decode cX3_takeSign 47 = .ok (.invokevirtual 72, 3) := by decide +kernel
theorem dX3_takeSign_50 : decode cX3_takeSign 50 = .ok (.goto 8, 3) := by decide +kernel
theorem dX3_takeSign_53 : decode cX3_takeSign 53 = .ok (.aload_n 0, 1) := by decide +kernel
theorem dX3_takeSign_54 : decode cX3_takeSign 54 = .ok (.iload_n 1, 1) := by decide +kernel
theorem dX3_takeSign_55 : decode cX3_takeSign 55 = .ok (.invokevirtual 76, 3) := by decide +kernel
theorem dX3_takeSign_58 : decode cX3_takeSign 58 = .ok (.ireturn, 1) := by decide +kernel
theorem dX3_takeSign_59 : decode cX3_takeSign 59 = .ok (.aload_n 0, 1) := by decide +kernel
theorem dX3_takeSign_60 : decode cX3_takeSign 60 = .ok (.getfield 36, 3) := by decide +kernel
theorem dX3_takeSign_63 : decode cX3_takeSign 63 = .ok (.ifCond .eq 10, 3) := by decide +kernel
theorem dX3_takeSign_66 : decode cX3_takeSign 66 = .ok (.aload_n 0, 1) := by decide +kernel
theorem dX3_takeSign_67 : decode cX3_takeSign 67 = .ok (.getfield 19, 3) := by decide +kernel
theorem dX3_takeSign_70 : decode cX3_takeSign 70 = .ok (.goto 7, 3) := by decide +kernel
theorem dX3_takeSign_73 : decode cX3_takeSign 73 = .ok (.aload_n 0, 1) := by decide +kernel
theorem dX3_takeSign_74 : decode cX3_takeSign 74 = .ok (.getfield 15, 3) := by decide +kernel
theorem dX3_takeSign_77 : decode cX3_takeSign 77 = .ok (.astore_n 3, 1) := by decide +kernel
theorem dX3_takeSign_78 : decode cX3_takeSign 78 = .ok (.aload_n 3, 1) := by decide +kernel
theorem dX3_takeSign_79 : decode cX3_takeSign 79 = .ok (.aload_n 0, 1) := by decide +kernel
theorem dX3_takeSign_80 : decode cX3_takeSign 80 = .ok (.getfield 30, 3) := by decide +kernel
theorem dX3_takeSign_83 : decode cX3_takeSign 83 = .ok (.iconst 1, 1) := by decide +kernel
theorem dX3_takeSign_84 : decode cX3_takeSign 84 = .ok (.isub, 1) := by decide +kernel
theorem dX3_takeSign_85 : decode cX3_takeSign 85 = .ok (.dup2, 1) := by decide +kernel
theorem dX3_takeSign_86 : decode cX3_takeSign 86 = .ok (.iaload, 1) := by decide +kernel
theorem dX3_takeSign_87 : decode cX3_takeSign 87 = .ok (.iload_n 2, 1) := by decide +kernel
theorem dX3_takeSign_88 : decode cX3_takeSign 88 = .ok (.bipush 97, 2) := by decide +kernel
theorem dX3_takeSign_90 : decode cX3_takeSign 90 = .ok (.isub, 1) := by decide +kernel
theorem dX3_takeSign_91 : decode cX3_takeSign 91 = .ok (.iconst 1, 1) := by decide +kernel
theorem dX3_takeSign_92 : decode cX3_takeSign 92 = .ok (.iadd, 1) := by decide +kernel
theorem dX3_takeSign_93 : decode cX3_takeSign 93 = .ok (.iadd, 1) := by decide +kernel
theorem dX3_takeSign_94 : decode cX3_takeSign 94 = .ok (.iastore, 1) := by decide +kernel
theorem dX3_takeSign_95 : decode cX3_takeSign 95 = .ok (.iconst 1, 1) := by decide +kernel
theorem dX3_takeSign_96 : decode cX3_takeSign 96 = .ok (.ireturn, 1) := by decide +kernel
theorem dX3_beginTemplate_0 : decode cX3_beginTemplate 0 = .ok (.aload_n 0, 1) := by decide +kernel
theorem dX3_beginTemplate_1 : decode cX3_beginTemplate 1 = .ok (.getfield 30, 3) := by decide +kernel
theorem dX3_beginTemplate_4 : decode cX3_beginTemplate 4 = .ok (.bipush 12, 2) := by decide +kernel
theorem dX3_beginTemplate_6 : decode cX3_beginTemplate 6 = .ok (.if_icmp .lt 5, 3) := by decide +kernel
theorem dX3_beginTemplate_9 : decode cX3_beginTemplate 9 = .ok (.iconst 0, 1) := by decide +kernel
theorem dX3_beginTemplate_10 : decode cX3_beginTemplate 10 = .ok (.ireturn, 1) := by decide +kernel
theorem dX3_beginTemplate_11 : decode cX3_beginTemplate 11 = .ok (.aload_n 0, 1) := by decide +kernel
theorem dX3_beginTemplate_12 : decode cX3_beginTemplate 12 = .ok (.dup, 1) := by decide +kernel
theorem dX3_beginTemplate_13 : decode cX3_beginTemplate 13 = .ok (.getfield 30, 3) := by decide +kernel
theorem dX3_beginTemplate_16 : decode cX3_beginTemplate 16 = .ok (.iconst 1, 1) := by decide +kernel
theorem dX3_beginTemplate_17 : decode cX3_beginTemplate 17 = .ok (.iadd, 1) := by decide +kernel
theorem dX3_beginTemplate_18 : decode cX3_beginTemplate 18 = .ok (.putfield 30, 3) := by decide +kernel
theorem dX3_beginTemplate_21 : decode cX3_beginTemplate 21 = .ok (.aload_n 0, 1) := by decide +kernel
theorem dX3_beginTemplate_22 : decode cX3_beginTemplate 22 = .ok (.iconst 0, 1) := by decide +kernel
theorem dX3_beginTemplate_23 : decode cX3_beginTemplate 23 = .ok (.putfield 36, 3) := by decide +kernel
theorem dX3_beginTemplate_26 : decode cX3_beginTemplate 26 = .ok (.iconst 1, 1) := by decide +kernel
theorem dX3_beginTemplate_27 : decode cX3_beginTemplate 27 = .ok (.ireturn, 1) := by decide +kernel
theorem dX3_beginRepeat_0 : decode cX3_beginRepeat 0 = .ok (.aload_n 0, 1) := by decide +kernel
theorem dX3_beginRepeat_1 : decode cX3_beginRepeat 1 = .ok (.getfield 33, 3) := by decide +kernel
theorem dX3_beginRepeat_4 : decode cX3_beginRepeat 4 = .ok (.iconst (-1), 1) := by decide +kernel
theorem dX3_beginRepeat_5 : decode cX3_beginRepeat 5 = .ok (.if_icmp .ne 20, 3) := by decide +kernel
theorem dX3_beginRepeat_8 : decode cX3_beginRepeat 8 = .ok (.iload_n 1, 1) := by decide +kernel
theorem dX3_beginRepeat_9 : decode cX3_beginRepeat 9 = .ok (.ifCond .le 18, 3) := by decide +kernel
theorem dX3_beginRepeat_12 : decode cX3_beginRepeat 12 = .ok (.aload_n 0, 1) := by decide +kernel
theorem dX3_beginRepeat_13 : decode cX3_beginRepeat 13 = .ok (.getfield 9, 3) := by decide +kernel
theorem dX3_beginRepeat_16 : decode cX3_beginRepeat 16 = .ok (.iload_n 1, 1) := by decide +kernel
theorem dX3_beginRepeat_17 : decode cX3_beginRepeat 17 = .ok (.iconst 1, 1) := by decide +kernel
theorem dX3_beginRepeat_18 : decode cX3_beginRepeat 18 = .ok (.isub, 1) := by decide +kernel
theorem dX3_beginRepeat_19 : decode cX3_beginRepeat 19 = .ok (.caload, 1) := by decide +kernel
theorem dX3_beginRepeat_20 : decode cX3_beginRepeat 20 = .ok (.bipush 38, 2) := by decide +kernel
theorem dX3_beginRepeat_22 : decode cX3_beginRepeat 22 = .ok (.if_icmp .eq 5, 3) := by decide +kernel
theorem dX3_beginRepeat_25 : decode cX3_beginRepeat 25 = .ok (.iconst 0, 1) := by decide +kernel
theorem dX3_beginRepeat_26 : decode cX3_beginRepeat 26 = .ok (.ireturn, 1) := by decide +kernel
theorem dX3_beginRepeat_27 : decode cX3_beginRepeat 27 = .ok (.aload_n 0, 1) := by decide +kernel
theorem dX3_beginRepeat_28 : decode cX3_beginRepeat 28 = .ok (.aload_n 0, 1) := by decide +kernel
theorem dX3_beginRepeat_29 : decode cX3_beginRepeat 29 = .ok (.getfield 30, 3) := by decide +kernel
theorem dX3_beginRepeat_32 : decode cX3_beginRepeat 32 = .ok (.iconst 1, 1) := by decide +kernel
theorem dX3_beginRepeat_33 : decode cX3_beginRepeat 33 = .ok (.isub, 1) := by decide +kernel
theorem dX3_beginRepeat_34 : decode cX3_beginRepeat 34 = .ok (.putfield 33, 3) := by decide +kernel
theorem dX3_beginRepeat_37 : decode cX3_beginRepeat 37 = .ok (.iconst 1, 1) := by decide +kernel
theorem dX3_beginRepeat_38 : decode cX3_beginRepeat 38 = .ok (.ireturn, 1) := by decide +kernel
theorem dX3_columnLimit_0 : decode cX3_columnLimit 0 = .ok (.aload_n 0, 1) := by decide +kernel
theorem dX3_columnLimit_1 : decode cX3_columnLimit 1 = .ok (.getfield 33, 3) := by decide +kernel
theorem dX3_columnLimit_4 : decode cX3_columnLimit 4 = .ok (.iconst (-1), 1) := by decide +kernel
theorem dX3_columnLimit_5 : decode cX3_columnLimit 5 = .ok (.if_icmp .ne 10, 3) := by decide +kernel
theorem dX3_columnLimit_8 : decode cX3_columnLimit 8 = .ok (.aload_n 0, 1) := by decide +kernel
theorem dX3_columnLimit_9 : decode cX3_columnLimit 9 = .ok (.getfield 30, 3) := by decide +kernel
theorem dX3_columnLimit_12 : decode cX3_columnLimit 12 = .ok (.goto 5, 3) := by decide +kernel
theorem dX3_columnLimit_15 : decode cX3_columnLimit 15 = .ok (.bipush 24, 2) := by decide +kernel
theorem dX3_columnLimit_17 : decode cX3_columnLimit 17 = .ok (.ireturn, 1) := by decide +kernel
theorem dX3_templateOf_0 : decode cX3_templateOf 0 = .ok (.aload_n 0, 1) := by decide +kernel
theorem dX3_templateOf_1 : decode cX3_templateOf 1 = .ok (.getfield 30, 3) := by decide +kernel
theorem dX3_templateOf_4 : decode cX3_templateOf 4 = .ok (.aload_n 0, 1) := by decide +kernel
theorem dX3_templateOf_5 : decode cX3_templateOf 5 = .ok (.getfield 33, 3) := by decide +kernel
theorem dX3_templateOf_8 : decode cX3_templateOf 8 = .ok (.isub, 1) := by decide +kernel
theorem dX3_templateOf_9 : decode cX3_templateOf 9 = .ok (.istore_n 2, 1) := by decide +kernel
theorem dX3_templateOf_10 : decode cX3_templateOf 10 = .ok (.iload_n 1, 1) := by decide +kernel
theorem dX3_templateOf_11 : decode cX3_templateOf 11 = .ok (.aload_n 0, 1) := by decide +kernel
theorem dX3_templateOf_12 : decode cX3_templateOf 12 = .ok (.getfield 30, 3) := by decide +kernel
theorem dX3_templateOf_15 : decode cX3_templateOf 15 = .ok (.if_icmp .lt 15, 3) := by decide +kernel
theorem dX3_templateOf_18 : decode cX3_templateOf 18 = .ok (.aload_n 0, 1) := by decide +kernel
theorem dX3_templateOf_19 : decode cX3_templateOf 19 = .ok (.getfield 33, 3) := by decide +kernel
theorem dX3_templateOf_22 : decode cX3_templateOf 22 = .ok (.iconst (-1), 1) := by decide +kernel
theorem dX3_templateOf_23 : decode cX3_templateOf 23 = .ok (.if_icmp .eq 7, 3) := by decide +kernel
theorem dX3_templateOf_26 : decode cX3_templateOf 26 = .ok (.iload_n 2, 1) := by decide +kernel
theorem dX3_templateOf_27 : decode cX3_templateOf 27 = .ok (.ifCond .gt 5, 3) := by decide +kernel
theorem dX3_templateOf_30 : decode cX3_templateOf 30 = .ok (.iload_n 1, 1) := by decide +kernel
theorem dX3_templateOf_31 : decode cX3_templateOf 31 = .ok (.ireturn, 1) := by decide +kernel
theorem dX3_templateOf_32 : decode cX3_templateOf 32 = .ok (.aload_n 0, 1) := by decide +kernel
theorem dX3_templateOf_33 : decode cX3_templateOf 33 = .ok (.getfield 33, 3) := by decide +kernel
theorem dX3_templateOf_36 : decode cX3_templateOf 36 = .ok (.iload_n 1, 1) := by decide +kernel
theorem dX3_templateOf_37 : decode cX3_templateOf 37 = .ok (.aload_n 0, 1) := by decide +kernel
theorem dX3_templateOf_38 : decode cX3_templateOf 38 = .ok (.getfield 33, 3) := by decide +kernel
theorem dX3_templateOf_41 : decode cX3_templateOf 41 = .ok (.isub, 1) := by decide +kernel
theorem dX3_templateOf_42 : decode cX3_templateOf 42 = .ok (.iload_n 2, 1) := by decide +kernel
theorem dX3_templateOf_43 : decode cX3_templateOf 43 = .ok (.irem, 1) := by decide +kernel
theorem dX3_templateOf_44 : decode cX3_templateOf 44 = .ok (.iadd, 1) := by decide +kernel
theorem dX3_templateOf_45 : decode cX3_templateOf 45 = .ok (.ireturn, 1) := by decide +kernel
theorem dX3_textOf_0 : decode cX3_textOf 0 = .ok (.aload_n 0, 1) := by decide +kernel
theorem dX3_textOf_1 : decode cX3_textOf 1 = .ok (.getfield 15, 3) := by decide +kernel
theorem dX3_textOf_4 : decode cX3_textOf 4 = .ok (.aload_n 0, 1) := by decide +kernel
theorem dX3_textOf_5 : decode cX3_textOf 5 = .ok (.iload_n 1, 1) := by decide +kernel
theorem dX3_textOf_6 : decode cX3_textOf 6 = .ok (.invokevirtual 79, 3) := by decide +kernel
theorem dX3_textOf_9 : decode cX3_textOf 9 = .ok (.iaload, 1) := by decide +kernel
theorem dX3_textOf_10 : decode cX3_textOf 10 = .ok (.aload_n 0, 1) := by decide +kernel
theorem dX3_textOf_11 : decode cX3_textOf 11 = .ok (.getfield 19, 3) := by decide +kernel
theorem dX3_textOf_14 : decode cX3_textOf 14 = .ok (.aload_n 0, 1) := by decide +kernel
theorem dX3_textOf_15 : decode cX3_textOf 15 = .ok (.iload_n 2, 1) := by decide +kernel
theorem dX3_textOf_16 : decode cX3_textOf 16 = .ok (.invokevirtual 79, 3) := by decide +kernel
theorem dX3_textOf_19 : decode cX3_textOf 19 = .ok (.iaload, 1) := by decide +kernel
theorem dX3_textOf_20 : decode cX3_textOf 20 = .ok (.iadd, 1) := by decide +kernel
theorem dX3_textOf_21 : decode cX3_textOf 21 = .ok (.ireturn, 1) := by decide +kernel
theorem dX4_init_0 : decode cX4_init 0 = .ok (.aload_n 0, 1) := by decide +kernel
theorem dX4_init_1 : decode cX4_init 1 = .ok (.invokespecial 3, 3) := by decide +kernel
theorem dX4_init_4 : decode cX4_init 4 = .ok (.aload_n 0, 1) := by decide +kernel
theorem dX4_init_5 : decode cX4_init 5 = .ok (.bipush 24, 2) := by decide +kernel
theorem dX4_init_7 : decode cX4_init 7 = .ok (.newarray .int, 2) := by decide +kernel
theorem dX4_init_9 : decode cX4_init 9 = .ok (.putfield 9, 3) := by decide +kernel
theorem dX4_init_12 : decode cX4_init 12 = .ok (.aload_n 0, 1) := by decide +kernel
theorem dX4_init_13 : decode cX4_init 13 = .ok (.bipush 24, 2) := by decide +kernel
theorem dX4_init_15 : decode cX4_init 15 = .ok (.newarray .int, 2) := by decide +kernel
theorem dX4_init_17 : decode cX4_init 17 = .ok (.putfield 15, 3) := by decide +kernel
theorem dX4_init_20 : decode cX4_init 20 = .ok (.aload_n 0, 1) := by decide +kernel
theorem dX4_init_21 : decode cX4_init 21 = .ok (.bipush 24, 2) := by decide +kernel
theorem dX4_init_23 : decode cX4_init 23 = .ok (.newarray .int, 2) := by decide +kernel
theorem dX4_init_25 : decode cX4_init 25 = .ok (.putfield 18, 3) := by decide +kernel
theorem dX4_init_28 : decode cX4_init 28 = .ok (.aload_n 0, 1) := by decide +kernel
theorem dX4_init_29 : decode cX4_init 29 = .ok (.iconst 0, 1) := by decide +kernel
theorem dX4_init_30 : decode cX4_init 30 = .ok (.putfield 21, 3) := by decide +kernel
theorem dX4_init_33 : decode cX4_init 33 = .ok (.aload_n 0, 1) := by decide +kernel
theorem dX4_init_34 : decode cX4_init 34 = .ok (.iconst 0, 1) := by decide +kernel
theorem dX4_init_35 : decode cX4_init 35 = .ok (.putfield 25, 3) := by decide +kernel
theorem dX4_init_38 : decode cX4_init 38 = .ok (.return_, 1) := by decide +kernel
theorem dX4_append_0 : decode cX4_append 0 = .ok (.aload_n 0, 1) := by decide +kernel
theorem dX4_append_1 : decode cX4_append 1 = .ok (.getfield 9, 3) := by decide +kernel
theorem dX4_append_4 : decode cX4_append 4 = .ok (.aload_n 0, 1) := by decide +kernel
theorem dX4_append_5 : decode cX4_append 5 = .ok (.getfield 21, 3) := by decide +kernel
theorem dX4_append_8 : decode cX4_append 8 = .ok (.iload_n 1, 1) := by decide +kernel
theorem dX4_append_9 : decode cX4_append 9 = .ok (.iastore, 1) := by decide +kernel
theorem dX4_append_10 : decode cX4_append 10 = .ok (.aload_n 0, 1) := by decide +kernel
theorem dX4_append_11 : decode cX4_append 11 = .ok (.getfield 15, 3) := by decide +kernel
theorem dX4_append_14 : decode cX4_append 14 = .ok (.aload_n 0, 1) := by decide +kernel
theorem dX4_append_15 : decode cX4_append 15 = .ok (.getfield 21, 3) := by decide +kernel
theorem dX4_append_18 : decode cX4_append 18 = .ok (.aload_n 0, 1) := by decide +kernel
theorem dX4_append_19 : decode cX4_append 19 = .ok (.getfield 25, 3) := by decide +kernel
theorem dX4_append_22 : decode cX4_append 22 = .ok (.iastore, 1) := by decide +kernel
theorem dX4_append_23 : decode cX4_append 23 = .ok (.aload_n 0, 1) := by decide +kernel
theorem dX4_append_24 : decode cX4_append 24 = .ok (.getfield 18, 3) := by decide +kernel
theorem dX4_append_27 : decode cX4_append 27 = .ok (.aload_n 0, 1) := by decide +kernel
theorem dX4_append_28 : decode cX4_append 28 = .ok (.getfield 21, 3) := by decide +kernel
theorem dX4_append_31 : decode cX4_append 31 = .ok (.iload_n 2, 1) := by decide +kernel
theorem dX4_append_32 : decode cX4_append 32 = .ok (.iastore, 1) := by decide +kernel
theorem dX4_append_33 : decode cX4_append 33 = .ok (.aload_n 0, 1) := by decide +kernel
theorem dX4_append_34 : decode cX4_append 34 = .ok (.dup, 1) := by decide +kernel
theorem dX4_append_35 : decode cX4_append 35 = .ok (.getfield 21, 3) := by decide +kernel
theorem dX4_append_38 : decode cX4_append 38 = .ok (.iconst 1, 1) := by decide +kernel
theorem dX4_append_39 : decode cX4_append 39 = .ok (.iadd, 1) := by decide +kernel
theorem dX4_append_40 : decode cX4_append 40 = .ok (.putfield 21, 3) := by decide +kernel
theorem dX4_append_43 : decode cX4_append 43 = .ok (.aload_n 0, 1) := by decide +kernel
theorem dX4_append_44 : decode cX4_append 44 = .ok (.dup, 1) := by decide +kernel
theorem dX4_append_45 : decode cX4_append 45 = .ok (.getfield 25, 3) := by decide +kernel
theorem dX4_append_48 : decode cX4_append 48 = .ok (.iload_n 2, 1) := by decide +kernel
theorem dX4_append_49 : decode cX4_append 49 = .ok (.iadd, 1) := by decide +kernel
theorem dX4_append_50 : decode cX4_append 50 = .ok (.putfield 25, 3) := by decide +kernel
theorem dX4_append_53 : decode cX4_append 53 = .ok (.return_, 1) := by decide +kernel
theorem dX5_init_0 : decode cX5_init 0 = .ok (.aload_n 0, 1) := by decide +kernel
theorem dX5_init_1 : decode cX5_init 1 = .ok (.invokespecial 3, 3) := by decide +kernel
theorem dX5_init_4 : decode cX5_init 4 = .ok (.aload_n 0, 1) := by decide +kernel
theorem dX5_init_5 : decode cX5_init 5 = .ok (.new 9, 3) := by decide +kernel
theorem dX5_init_8 : decode cX5_init 8 = .ok (.dup, 1) := by decide +kernel
theorem dX5_init_9 : decode cX5_init 9 = .ok (.invokespecial 11, 3) := by decide +kernel
theorem dX5_init_12 : decode cX5_init 12 = .ok (.putfield 12, 3) := by decide +kernel
theorem dX5_init_15 : decode cX5_init 15 = .ok (.aload_n 0, 1) := by decide +kernel
theorem dX5_init_16 : decode cX5_init 16 = .ok (.bipush 13, 2) := by decide +kernel
theorem dX5_init_18 : decode cX5_init 18 = .ok (.anewarray 18, 3) := by decide +kernel
theorem dX5_init_21 : decode cX5_init 21 = .ok (.putfield 20, 3) := by decide +kernel
theorem dX5_init_24 : decode cX5_init 24 = .ok (.aload_n 0, 1) := by decide +kernel
theorem dX5_init_25 : decode cX5_init 25 = .ok (.bipush 20, 2) := by decide +kernel
theorem dX5_init_27 : decode cX5_init 27 = .ok (.anewarray 24, 3) := by decide +kernel
theorem dX5_init_30 : decode cX5_init 30 = .ok (.putfield 26, 3) := by decide +kernel
theorem dX5_init_33 : decode cX5_init 33 = .ok (.aload_n 0, 1) := by decide +kernel
theorem dX5_init_34 : decode cX5_init 34 = .ok (.bipush 40, 2) := by decide +kernel
theorem dX5_init_36 : decode cX5_init 36 = .ok (.newarray .int, 2) := by decide +kernel
theorem dX5_init_38 : decode cX5_init 38 = .ok (.putfield 30, 3) := by decide +kernel
theorem dX5_init_41 : decode cX5_init 41 = .ok (.aload_n 0, 1) := by decide +kernel
theorem dX5_init_42 : decode cX5_init 42 = .ok (.new 34, 3) := by decide +kernel
theorem dX5_init_45 : decode cX5_init 45 = .ok (.dup, 1) := by decide +kernel
theorem dX5_init_46 : decode cX5_init 46 = .ok (.invokespecial 36, 3) := by decide +kernel
theorem dX5_init_49 : decode cX5_init 49 = .ok (.putfield 37, 3) := by decide +kernel
theorem dX5_init_52 : decode cX5_init 52 = .ok (.aload_n 0, 1) := by decide +kernel
theorem dX5_init_53 : decode cX5_init 53 = .ok (.iconst 0, 1) := by decide +kernel
theorem dX5_init_54 : decode cX5_init 54 = .ok (.putfield 41, 3) := by decide +kernel
theorem dX5_init_57 : decode cX5_init 57 = .ok (.aload_n 0, 1) := by decide +kernel
theorem dX5_init_58 : decode cX5_init 58 = .ok (.iconst 0, 1) := by decide +kernel
theorem dX5_init_59 : decode cX5_init 59 = .ok (.putfield 45, 3) := by decide +kernel
theorem dX5_init_62 : decode cX5_init 62 = .ok (.aload_n 0, 1) := by decide +kernel
theorem dX5_init_63 : decode cX5_init 63 = .ok (.iconst 0, 1) := by decide +kernel
theorem dX5_init_64 : decode cX5_init 64 = .ok (.putfield 48, 3) := by decide +kernel
theorem dX5_init_67 : decode cX5_init 67 = .ok (.aload_n 0, 1) := by decide +kernel
theorem dX5_init_68 : decode cX5_init 68 = .ok (.iconst 0, 1) := by decide +kernel
theorem dX5_init_69 : decode cX5_init 69 = .ok (.putfield 51, 3) := by decide +kernel
theorem dX5_init_72 : decode cX5_init 72 = .ok (.iconst 0, 1) := by decide +kernel
theorem dX5_init_73 : decode cX5_init 73 = .ok (.istore_n 1, 1) := by decide +kernel
theorem dX5_init_74 : decode cX5_init 74 = .ok (.iload_n 1, 1) := by decide +kernel
theorem dX5_init_75 : decode cX5_init 75 = .ok (.aload_n 0, 1) := by decide +kernel
theorem dX5_init_76 : decode cX5_init 76 = .ok (.getfield 20, 3) := by decide +kernel
theorem dX5_init_79 : decode cX5_init 79 = .ok (.arraylength, 1) := by decide +kernel
theorem dX5_init_80 : decode cX5_init 80 = .ok (.if_icmp .ge 22, 3) := by decide +kernel
theorem dX5_init_83 : decode cX5_init 83 = .ok (.aload_n 0, 1) := by decide +kernel
theorem dX5_init_84 : decode cX5_init 84 = .ok (.getfield 20, 3) := by decide +kernel
theorem dX5_init_87 : decode cX5_init 87 = .ok (.iload_n 1, 1) := by decide +kernel
theorem dX5_init_88 : decode cX5_init 88 = .ok (.new 18, 3) := by decide +kernel
theorem dX5_init_91 : decode cX5_init 91 = .ok (.dup, 1) := by decide +kernel
theorem dX5_init_92 : decode cX5_init 92 = .ok (.invokespecial 55, 3) := by decide +kernel
theorem dX5_init_95 : decode cX5_init 95 = .ok (.aastore, 1) := by decide +kernel
theorem dX5_init_96 : decode cX5_init 96 = .ok (.iinc 1 1, 3) := by decide +kernel
theorem dX5_init_99 : decode cX5_init 99 = .ok (.goto (-25), 3) := by decide +kernel
theorem dX5_init_102 : decode cX5_init 102 = .ok (.iconst 0, 1) := by decide +kernel
theorem dX5_init_103 : decode cX5_init 103 = .ok (.istore_n 1, 1) := by decide +kernel
theorem dX5_init_104 : decode cX5_init 104 = .ok (.iload_n 1, 1) := by decide +kernel
theorem dX5_init_105 : decode cX5_init 105 = .ok (.aload_n 0, 1) := by decide +kernel
theorem dX5_init_106 : decode cX5_init 106 = .ok (.getfield 26, 3) := by decide +kernel
theorem dX5_init_109 : decode cX5_init 109 = .ok (.arraylength, 1) := by decide +kernel
theorem dX5_init_110 : decode cX5_init 110 = .ok (.if_icmp .ge 22, 3) := by decide +kernel
theorem dX5_init_113 : decode cX5_init 113 = .ok (.aload_n 0, 1) := by decide +kernel
theorem dX5_init_114 : decode cX5_init 114 = .ok (.getfield 26, 3) := by decide +kernel
theorem dX5_init_117 : decode cX5_init 117 = .ok (.iload_n 1, 1) := by decide +kernel
theorem dX5_init_118 : decode cX5_init 118 = .ok (.new 24, 3) := by decide +kernel
theorem dX5_init_121 : decode cX5_init 121 = .ok (.dup, 1) := by decide +kernel
theorem dX5_init_122 : decode cX5_init 122 = .ok (.invokespecial 56, 3) := by decide +kernel
theorem dX5_init_125 : decode cX5_init 125 = .ok (.aastore, 1) := by decide +kernel
theorem dX5_init_126 : decode cX5_init 126 = .ok (.iinc 1 1, 3) := by decide +kernel
theorem dX5_init_129 : decode cX5_init 129 = .ok (.goto (-25), 3) := by decide +kernel
theorem dX5_init_132 : decode cX5_init 132 = .ok (.return_, 1) := by decide +kernel
theorem dX5_isAtRest_0 : decode cX5_isAtRest 0 = .ok (.aload_n 0, 1) := by decide +kernel
theorem dX5_isAtRest_1 : decode cX5_isAtRest 1 = .ok (.getfield 12, 3) := by decide +kernel
theorem dX5_isAtRest_4 : decode cX5_isAtRest 4 = .ok (.getfield 57, 3) := by decide +kernel
theorem dX5_isAtRest_7 : decode cX5_isAtRest 7 = .ok (.ifCond .eq 14, 3) := by decide +kernel
theorem dX5_isAtRest_10 : decode cX5_isAtRest 10 = .ok (.aload_n 0, 1) := by decide +kernel
theorem dX5_isAtRest_11 : decode cX5_isAtRest 11 = .ok (.getfield 51, 3) := by decide +kernel
theorem dX5_isAtRest_14 : decode cX5_isAtRest 14 = .ok (.ifCond .ne 7, 3) := by decide +kernel
theorem dX5_isAtRest_17 : decode cX5_isAtRest 17 = .ok (.iconst 1, 1) := by decide +kernel
theorem dX5_isAtRest_18 : decode cX5_isAtRest 18 = .ok (.goto 4, 3) := by decide +kernel
theorem dX5_isAtRest_21 : decode cX5_isAtRest 21 = .ok (.iconst 0, 1) := by decide +kernel
theorem dX5_isAtRest_22 : decode cX5_isAtRest 22 = .ok (.ireturn, 1) := by decide +kernel
theorem dX5_refuseGlue_0 : decode cX5_refuseGlue 0 = .ok (.aload_n 0, 1) := by decide +kernel
theorem dX5_refuseGlue_1 : decode cX5_refuseGlue 1 = .ok (.getfield 12, 3) := by decide +kernel
theorem dX5_refuseGlue_4 : decode cX5_refuseGlue 4 = .ok (.getfield 57, 3) := by decide +kernel
theorem dX5_refuseGlue_7 : decode cX5_refuseGlue 7 = .ok (.ifCond .ne 6, 3) := by decide +kernel
theorem dX5_refuseGlue_10 : decode cX5_refuseGlue 10 = .ok (.bipush (-3), 2) := by decide +kernel
theorem dX5_refuseGlue_12 : decode cX5_refuseGlue 12 = .ok (.ireturn, 1) := by decide +kernel
theorem dX5_refuseGlue_13 : decode cX5_refuseGlue 13 = .ok (.iload_n 1, 1) := by decide +kernel
theorem dX5_refuseGlue_14 : decode cX5_refuseGlue 14 = .ok (.iconst 0, 1) := by decide +kernel
theorem dX5_refuseGlue_15 : decode cX5_refuseGlue 15 = .ok (.aload_n 0, 1) := by decide +kernel
theorem dX5_refuseGlue_16 : decode cX5_refuseGlue 16 = .ok (.getfield 12, 3) := by decide +kernel
theorem dX5_refuseGlue_19 : decode cX5_refuseGlue 19 = .ok (.getfield 60, 3) := by decide +kernel
theorem dX5_refuseGlue_22 : decode cX5_refuseGlue 22 = .ok (.invokestatic 63, 3) := by decide +kernel
theorem dX5_refuseGlue_25 : decode cX5_refuseGlue 25 = .ok (.ifCond .eq 7, 3) := by decide +kernel
theorem dX5_refuseGlue_28 : decode cX5_refuseGlue 28 = .ok (.iconst 0, 1) := by decide +kernel
theorem dX5_refuseGlue_29 : decode cX5_refuseGlue 29 = .ok (.goto 4, 3) := by decide +kernel
theorem dX5_refuseGlue_32 : decode cX5_refuseGlue 32 = .ok (.iconst (-1), 1) := by decide +kernel
theorem dX5_refuseGlue_33 : decode cX5_refuseGlue 33 = .ok (.ireturn, 1) := by decide +kernel
theorem dX5_openRow_0 : decode cX5_openRow 0 = .ok (.aload_n 0, 1) := by decide +kernel
theorem dX5_openRow_1 : decode cX5_openRow 1 = .ok (.invokevirtual 67, 3) := by decide +kernel
theorem dX5_openRow_4 : decode cX5_openRow 4 = .ok (.ifCond .ne 6, 3) := by decide +kernel
theorem dX5_openRow_7 : decode cX5_openRow 7 = .ok (.bipush (-3), 2) := by decide +kernel
theorem dX5_openRow_9 : decode cX5_openRow 9 = .ok (.ireturn, 1) := by decide +kernel
theorem dX5_openRow_10 : decode cX5_openRow 10 = .ok (.aload_n 0, 1) := by decide +kernel
theorem dX5_openRow_11 : decode cX5_openRow 11 = .ok (.getfield 41, 3) := by decide +kernel
theorem dX5_openRow_14 : decode cX5_openRow 14 = .ok (.bipush 20, 2) := by decide +kernel
theorem dX5_openRow_16 : decode cX5_openRow 16 = .ok (.if_icmp .lt 6, 3) := by decide +kernel
theorem dX5_openRow_19 : decode cX5_openRow 19 = .ok (.bipush (-4), 2) := by decide +kernel
theorem dX5_openRow_21 : decode cX5_openRow 21 = .ok (.ireturn, 1) := by decide +kernel
theorem dX5_openRow_22 : decode cX5_openRow 22 = .ok (.aload_n 0, 1) := by decide +kernel
theorem dX5_openRow_23 : decode cX5_openRow 23 = .ok (.iconst 1, 1) := by decide +kernel
theorem dX5_openRow_24 : decode cX5_openRow 24 = .ok (.putfield 51, 3) := by decide +kernel
theorem dX5_openRow_27 : decode cX5_openRow 27 = .ok (.aload_n 0, 1) := by decide +kernel
theorem dX5_openRow_28 : decode cX5_openRow 28 = .ok (.dup, 1) := by decide +kernel
theorem dX5_openRow_29 : decode cX5_openRow 29 = .ok (.getfield 41, 3) := by decide +kernel
theorem dX5_openRow_32 : decode cX5_openRow 32 = .ok (.iconst 1, 1) := by decide +kernel
theorem dX5_openRow_33 : decode cX5_openRow 33 = .ok (.iadd, 1) := by decide +kernel
theorem dX5_openRow_34 : decode cX5_openRow 34 = .ok (.putfield 41, 3) := by decide +kernel
theorem dX5_openRow_37 : decode cX5_openRow 37 = .ok (.aload_n 0, 1) := by decide +kernel
theorem dX5_openRow_38 : decode cX5_openRow 38 = .ok (.aload_n 0, 1) := by decide +kernel
theorem dX5_openRow_39 : decode cX5_openRow 39 = .ok (.getfield 41, 3) := by decide +kernel
theorem dX5_openRow_42 : decode cX5_openRow 42 = .ok (.iconst 1, 1) := by decide +kernel
theorem dX5_openRow_43 : decode cX5_openRow 43 = .ok (.isub, 1) := by decide +kernel
theorem dX5_openRow_44 : decode cX5_openRow 44 = .ok (.invokevirtual 71, 3) := by decide +kernel
theorem dX5_openRow_47 : decode cX5_openRow 47 = .ok (.aload_n 0, 1) := by decide +kernel
theorem dX5_openRow_48 : decode cX5_openRow 48 = .ok (.getfield 41, 3) := by decide +kernel
theorem dX5_openRow_51 : decode cX5_openRow 51 = .ok (.iconst 1, 1) := by decide +kernel
theorem dX5_openRow_52 : decode cX5_openRow 52 = .ok (.isub, 1) := by decide +kernel
theorem dX5_openRow_53 : decode cX5_openRow 53 = .ok (.ireturn, 1) := by decide +kernel
theorem dX5_addBetween_0 : decode cX5_addBetween 0 = .ok (.aload_n 0, 1) := by decide +kernel
theorem dX5_addBetween_1 : decode cX5_addBetween 1 = .ok (.invokevirtual 67, 3) := by decide +kernel
theorem dX5_addBetween_4 : decode cX5_addBetween 4 = .ok (.ifCond .ne 6, 3) := by decide +kernel
theorem dX5_addBetween_7 : decode cX5_addBetween 7 = .ok (.bipush (-3), 2) := by decide +kernel
theorem dX5_addBetween_9 : decode cX5_addBetween 9 = .ok (.ireturn, 1) := by decide +kernel
theorem dX5_addBetween_10 : decode cX5_addBetween 10 = .ok (.aload_n 0, 1) := by decide +kernel
theorem dX5_addBetween_11 : decode cX5_addBetween 11 = .ok (.getfield 45, 3) := by decide +kernel
theorem dX5_addBetween_14 : decode cX5_addBetween 14 = .ok (.bipush 20, 2) := by decide +kernel
theorem dX5_addBetween_16 : decode cX5_addBetween 16 = .ok (.if_icmp .lt 6, 3) := by decide +kernel
theorem dX5_addBetween_19 : decode cX5_addBetween 19 = .ok (.bipush (-4), 2) := by decide +kernel
theorem dX5_addBetween_21 : decode cX5_addBetween 21 = .ok (.ireturn, 1) := by decide +kernel
theorem dX5_addBetween_22 : decode cX5_addBetween 22 = .ok (.aload_n 0, 1) := by decide +kernel
theorem dX5_addBetween_23 : decode cX5_addBetween 23 = .ok (.iconst (-1), 1) := by decide +kernel
theorem dX5_addBetween_24 : decode cX5_addBetween 24 = .ok (.aload_n 0, 1) := by decide +kernel
theorem dX5_addBetween_25 : decode cX5_addBetween 25 = .ok (.getfield 45, 3) := by decide +kernel
theorem dX5_addBetween_28 : decode cX5_addBetween 28 = .ok (.isub, 1) := by decide +kernel
theorem dX5_addBetween_29 : decode cX5_addBetween 29 = .ok (.invokevirtual 71, 3) := by decide +kernel
theorem dX5_addBetween_32 : decode cX5_addBetween 32 = .ok (.aload_n 0, 1) := by decide +kernel
theorem dX5_addBetween_33 : decode cX5_addBetween 33 = .ok (.dup, 1) := by decide +kernel
theorem dX5_addBetween_34 : decode cX5_addBetween 34 = .ok (.getfield 45, 3) := by decide +kernel
theorem dX5_addBetween_37 : decode cX5_addBetween 37 = .ok (.iconst 1, 1) := by decide +kernel
theorem dX5_addBetween_38 : decode cX5_addBetween 38 = .ok (.iadd, 1) := by decide +kernel
theorem dX5_addBetween_39 : decode cX5_addBetween 39 = .ok (.putfield 45, 3) := by decide +kernel
theorem dX5_addBetween_42 : decode cX5_addBetween 42 = .ok (.aload_n 0, 1) := by decide +kernel
theorem dX5_addBetween_43 : decode cX5_addBetween 43 = .ok (.getfield 45, 3) := by decide +kernel
theorem dX5_addBetween_46 : decode cX5_addBetween 46 = .ok (.ireturn, 1) := by decide +kernel
theorem dX5_putItem_0 : decode cX5_putItem 0 = .ok (.aload_n 0, 1) := by decide +kernel
theorem dX5_putItem_1 : decode cX5_putItem 1 = .ok (.getfield 30, 3) := by decide +kernel
theorem dX5_putItem_4 : decode cX5_putItem 4 = .ok (.aload_n 0, 1) := by decide +kernel
theorem dX5_putItem_5 : decode cX5_putItem 5 = .ok (.getfield 48, 3) := by decide +kernel
theorem dX5_putItem_8 : decode cX5_putItem 8 = .ok (.iload_n 1, 1) := by decide +kernel
theorem dX5_putItem_9 : decode cX5_putItem 9 = .ok (.iastore, 1) := by decide +kernel
theorem dX5_putItem_10 : decode cX5_putItem 10 = .ok (.aload_n 0, 1) := by decide +kernel
theorem dX5_putItem_11 : decode cX5_putItem 11 = .ok (.dup, 1) := by decide +kernel
theorem dX5_putItem_12 : decode cX5_putItem 12 = .ok (.getfield 48, 3) := by decide +kernel
theorem dX5_putItem_15 : decode cX5_putItem 15 = .ok (.iconst 1, 1) := by decide +kernel
theorem dX5_putItem_16 : decode cX5_putItem 16 = .ok (.iadd, 1) := by decide +kernel
theorem dX5_putItem_17 : decode cX5_putItem 17 = .ok (.putfield 48, 3) := by decide +kernel
theorem dX5_putItem_20 : decode cX5_putItem 20 = .ok (.return_, 1) := by decide +kernel
theorem dX5_closeRow_0 : decode cX5_closeRow 0 = .ok (.aload_n 0, 1) := by decide +kernel
theorem dX5_closeRow_1 : decode cX5_closeRow 1 = .ok (.getfield 51, 3) := by decide +kernel
theorem dX5_closeRow_4 : decode cX5_closeRow 4 = .ok (.ifCond .ne 6, 3) := by decide +kernel
theorem dX5_closeRow_7 : decode cX5_closeRow 7 = .ok (.bipush (-3), 2) := by decide +kernel
theorem dX5_closeRow_9 : decode cX5_closeRow 9 = .ok (.ireturn, 1) := by decide +kernel
theorem dX5_closeRow_10 : decode cX5_closeRow 10 = .ok (.aload_n 0, 1) := by decide +kernel
theorem dX5_closeRow_11 : decode cX5_closeRow 11 = .ok (.iconst 0, 1) := by decide +kernel
theorem dX5_closeRow_12 : decode cX5_closeRow 12 = .ok (.putfield 51, 3) := by decide +kernel
theorem dX5_closeRow_15 : decode cX5_closeRow 15 = .ok (.aload_n 0, 1) := by decide +kernel
theorem dX5_closeRow_16 : decode cX5_closeRow 16 = .ok (.getfield 26, 3) := by decide +kernel
theorem dX5_closeRow_19 : decode cX5_closeRow 19 = .ok (.aload_n 0, 1) := by decide +kernel
theorem dX5_closeRow_20 : decode cX5_closeRow 20 = .ok (.getfield 41, 3) := by decide +kernel
theorem dX5_closeRow_23 : decode cX5_closeRow 23 = .ok (.iconst 1, 1) := by decide +kernel
theorem dX5_closeRow_24 : decode cX5_closeRow 24 = .ok (.isub, 1) := by decide +kernel
theorem dX5_closeRow_25 : decode cX5_closeRow 25 = .ok (.aaload, 1) := by decide +kernel
theorem dX5_closeRow_26 : decode cX5_closeRow 26 = .ok (.getfield 75, 3) := by decide +kernel
theorem dX5_closeRow_29 : decode cX5_closeRow 29 = .ok (.ireturn, 1) := by decide +kernel
theorem dX5_addEntry_0 : decode cX5_addEntry 0 = .ok (.iload_n 2, 1) := by decide +kernel
theorem dX5_addEntry_1 : decode cX5_addEntry 1 = .ok (.iconst 1, 1) := by decide +kernel
theorem dX5_addEntry_2 : decode cX5_addEntry 2 = .ok (.bipush 8, 2) := by decide +kernel
theorem dX5_addEntry_4 : decode cX5_addEntry 4 = .ok (.invokestatic 63, 3) := by decide +kernel
theorem dX5_addEntry_7 : decode cX5_addEntry 7 = .ok (.ifCond .ne 6, 3) := by decide +kernel
theorem dX5_addEntry_10 : decode cX5_addEntry 10 = .ok (.bipush (-2), 2) := by decide +kernel
theorem dX5_addEntry_12 : decode cX5_addEntry 12 = .ok (.ireturn, 1) := by decide +kernel
theorem dX5_addEntry_13 : decode cX5_addEntry 13 = .ok (.aload_n 0, 1) := by decide +kernel
theorem dX5_addEntry_14 : decode cX5_addEntry 14 = .ok (.getfield 26, 3) := by decide +kernel
theorem dX5_addEntry_17 : decode cX5_addEntry 17 = .ok (.aload_n 0, 1) := by decide +kernel
theorem dX5_addEntry_18 : decode cX5_addEntry 18 = .ok (.getfield 41, 3) := by decide +kernel
theorem dX5_addEntry_21 : decode cX5_addEntry 21 = .ok (.iconst 1, 1) := by decide +kernel
theorem dX5_addEntry_22 : decode cX5_addEntry 22 = .ok (.isub, 1) := by decide +kernel
theorem dX5_addEntry_23 : decode cX5_addEntry 23 = .ok (.aaload, 1) := by decide +kernel
theorem dX5_addEntry_24 : decode cX5_addEntry 24 = .ok (.astore 4, 2) := by decide +kernel
theorem dX5_addEntry_26 : decode cX5_addEntry 26 = .ok (.aload 4, 2) := by decide +kernel
theorem dX5_addEntry_28 : decode cX5_addEntry 28 = .ok (.getfield 78, 3) := by decide +kernel
theorem dX5_addEntry_31 : decode cX5_addEntry 31 = .ok (.istore 5, 2) := by decide +kernel
theorem dX5_addEntry_33 : decode cX5_addEntry 33 = .ok (.iload 5, 2) := by decide +kernel
theorem dX5_addEntry_35 : decode cX5_addEntry 35 = .ok (.iload_n 2, 1) := by decide +kernel
theorem dX5_addEntry_36 : decode cX5_addEntry 36 = .ok (.iadd, 1) := by decide +kernel
theorem dX5_addEntry_37 : decode cX5_addEntry 37 = .ok (.iconst 1, 1) := by decide +kernel
theorem dX5_addEntry_38 : decode cX5_addEntry 38 = .ok (.isub, 1) := by decide +kernel
theorem dX5_addEntry_39 : decode cX5_addEntry 39 = .ok (.istore 6, 2) := by decide +kernel
theorem dX5_addEntry_41 : decode cX5_addEntry 41 = .ok (.iload 6, 2) := by decide +kernel
theorem dX5_addEntry_43 : decode cX5_addEntry 43 = .ok (.aload_n 0, 1) := by decide +kernel
theorem dX5_addEntry_44 : decode cX5_addEntry 44 = .ok (.getfield 12, 3) := by decide +kernel
theorem dX5_addEntry_47 : decode cX5_addEntry 47 = .ok (.invokevirtual 81, 3) := by decide +kernel
theorem dX5_addEntry_50 : decode cX5_addEntry 50 = .ok (.if_icmp .lt 5, 3) := by decide +kernel
theorem dX5_addEntry_53 : decode cX5_addEntry 53 = .ok (.iconst (-1), 1) := by decide +kernel
theorem dX5_addEntry_54 : decode cX5_addEntry 54 = .ok (.ireturn, 1) := by decide +kernel
theorem dX5_addEntry_55 : decode cX5_addEntry 55 = .ok (.aload 4, 2) := by decide +kernel
theorem dX5_addEntry_57 : decode cX5_addEntry 57 = .ok (.iload_n 3, 1) := by decide +kernel
theorem dX5_addEntry_58 : decode cX5_addEntry 58 = .ok (.ifCond .eq 7, 3) := by decide +kernel
theorem dX5_addEntry_61 : decode cX5_addEntry 61 = .ok (.iload_n 1, 1) := by decide +kernel
theorem dX5_addEntry_62 : decode cX5_addEntry 62 = .ok (.goto 16, 3) := by decide +kernel
theorem dX5_addEntry_65 : decode cX5_addEntry 65 = .ok (.iload_n 1, 1) := by decide +kernel
theorem dX5_addEntry_66 : decode cX5_addEntry 66 = .ok (.aload_n 0, 1) := by decide +kernel
theorem dX5_addEntry_67 : decode cX5_addEntry 67 = .ok (.getfield 12, 3) := by decide +kernel
theorem dX5_addEntry_70 : decode cX5_addEntry 70 = .ok (.iload 5, 2) := by decide +kernel
theorem dX5_addEntry_72 : decode cX5_addEntry 72 = .ok (.iload 6, 2) := by decide +kernel
theorem dX5_addEntry_74 : decode cX5_addEntry 74 = .ok (.invokevirtual 85, 3) := by decide +kernel
theorem dX5_addEntry_77 : decode cX5_addEntry 77 = .ok (.iadd, 1) := by decide +kernel
theorem dX5_addEntry_78 : decode cX5_addEntry 78 = .ok (.iload_n 2, 1) := by decide +kernel
theorem dX5_addEntry_79 : decode cX5_addEntry 79 = .ok (.invokevirtual 89, 3) := by decide +kernel
theorem dX5_addEntry_82 : decode cX5_addEntry 82 = .ok (.iload 5, 2) := by decide +kernel
theorem dX5_addEntry_84 : decode cX5_addEntry 84 = .ok (.ireturn, 1) := by decide +kernel
theorem dX5_hasEntry_0 : decode cX5_hasEntry 0 = .ok (.iload_n 1, 1) := by decide +kernel
theorem dX5_hasEntry_1 : decode cX5_hasEntry 1 = .ok (.iconst 0, 1) := by decide +kernel
theorem dX5_hasEntry_2 : decode cX5_hasEntry 2 = .ok (.aload_n 0, 1) := by decide +kernel
theorem dX5_hasEntry_3 : decode cX5_hasEntry 3 = .ok (.getfield 41, 3) := by decide +kernel
theorem dX5_hasEntry_6 : decode cX5_hasEntry 6 = .ok (.iconst 1, 1) := by decide +kernel
theorem dX5_hasEntry_7 : decode cX5_hasEntry 7 = .ok (.isub, 1) := by decide +kernel
theorem dX5_hasEntry_8 : decode cX5_hasEntry 8 = .ok (.invokestatic 63, 3) := by decide +kernel
theorem dX5_hasEntry_11 : decode cX5_hasEntry 11 = .ok (.ifCond .eq 26, 3) := by decide +kernel
theorem dX5_hasEntry_14 : decode cX5_hasEntry 14 = .ok (.iload_n 2, 1) := by decide +kernel
theorem dX5_hasEntry_15 : decode cX5_hasEntry 15 = .ok (.iconst 0, 1) := by decide +kernel
theorem dX5_hasEntry_16 : decode cX5_hasEntry 16 = .ok (.aload_n 0, 1) := by decide +kernel
theorem dX5_hasEntry_17 : decode cX5_hasEntry 17 = .ok (.getfield 26, 3) := by decide +kernel
theorem dX5_hasEntry_20 : decode cX5_hasEntry 20 = .ok (.iload_n 1, 1) := by decide +kernel
theorem dX5_hasEntry_21 : decode cX5_hasEntry 21 = .ok (.aaload, 1) := by decide +kernel
theorem dX5_hasEntry_22 : decode cX5_hasEntry 22 = .ok (.getfield 75, 3) := by decide +kernel
theorem dX5_hasEntry_25 : decode cX5_hasEntry 25 = .ok (.iconst 1, 1) := by decide +kernel
theorem dX5_hasEntry_26 : decode cX5_hasEntry 26 = .ok (.isub, 1) := by decide +kernel
theorem dX5_hasEntry_27 : decode cX5_hasEntry 27 = .ok (.invokestatic 63, 3) := by decide +kernel
theorem dX5_hasEntry_30 : decode cX5_hasEntry 30 = .ok (.ifCond .eq 7, 3) := by decide +kernel
theorem dX5_hasEntry_33 : decode cX5_hasEntry 33 = .ok (.iconst 1, 1) := by decide +kernel
theorem dX5_hasEntry_34 : decode cX5_hasEntry 34 = .ok (.goto 4, 3) := by decide +kernel
theorem dX5_hasEntry_37 : decode cX5_hasEntry 37 = .ok (.iconst 0, 1) := by decide +kernel
theorem dX5_hasEntry_38 : decode cX5_hasEntry 38 = .ok (.ireturn, 1) := by decide +kernel
theorem dX5_entriesOfAll_0 : decode cX5_entriesOfAll 0 = .ok (.iconst 0, 1) := by decide +kernel
theorem dX5_entriesOfAll_1 : decode cX5_entriesOfAll 1 = .ok (.istore_n 1, 1) := by decide +kernel
theorem dX5_entriesOfAll_2 : decode cX5_entriesOfAll 2 = .ok (.iconst 0, 1) := by decide +kernel
theorem dX5_entriesOfAll_3 : decode cX5_entriesOfAll 3 = .ok (.istore_n 2, 1) := by decide +kernel
theorem dX5_entriesOfAll_4 : decode cX5_entriesOfAll 4 = .ok (.iload_n 2, 1) := by decide +kernel
theorem dX5_entriesOfAll_5 : decode cX5_entriesOfAll 5 = .ok (.aload_n 0, 1) := by decide +kernel
theorem dX5_entriesOfAll_6 : decode cX5_entriesOfAll 6 = .ok (.getfield 41, 3) := by decide +kernel
theorem dX5_entriesOfAll_9 : decode cX5_entriesOfAll 9 = .ok (.if_icmp .ge 21, 3) := by decide +kernel
theorem dX5_entriesOfAll_12 : decode cX5_entriesOfAll 12 = .ok (.iload_n 1, 1) := by decide +kernel
theorem dX5_entriesOfAll_13 : decode cX5_entriesOfAll 13 = .ok (.aload_n 0, 1) := by decide +kernel
theorem dX5_entriesOfAll_14 : decode cX5_entriesOfAll 14 = .ok (.getfield 26, 3) := by decide +kernel
theorem dX5_entriesOfAll_17 : decode cX5_entriesOfAll 17 = .ok (.iload_n 2, 1) := by decide +kernel
theorem dX5_entriesOfAll_18 : decode cX5_entriesOfAll 18 = .ok (.aaload, 1) := by decide +kernel
theorem dX5_entriesOfAll_19 : decode cX5_entriesOfAll 19 = .ok (.getfield 75, 3) := by decide +kernel
theorem dX5_entriesOfAll_22 : decode cX5_entriesOfAll 22 = .ok (.iadd, 1) := by decide +kernel
theorem dX5_entriesOfAll_23 : decode cX5_entriesOfAll 23 = .ok (.istore_n 1, 1) := by decide +kernel
theorem dX5_entriesOfAll_24 : decode cX5_entriesOfAll 24 = .ok (.iinc 2 1, 3) := by decide +kernel
theorem dX5_entriesOfAll_27 : decode cX5_entriesOfAll 27 = .ok (.goto (-23), 3) := by decide +kernel
theorem dX5_entriesOfAll_30 : decode cX5_entriesOfAll 30 = .ok (.iload_n 1, 1) := by decide +kernel
theorem dX5_entriesOfAll_31 : decode cX5_entriesOfAll 31 = .ok (.ireturn, 1) := by decide +kernel
theorem dX5_glueAt_0 : decode cX5_glueAt 0 = .ok (.iload_n 1, 1) := by decide +kernel
theorem dX5_glueAt_1 : decode cX5_glueAt 1 = .ok (.ifCond .ne 12, 3) := by decide +kernel
theorem dX5_glueAt_4 : decode cX5_glueAt 4 = .ok (.aload_n 0, 1) := by decide +kernel
theorem dX5_glueAt_5 : decode cX5_glueAt 5 = .ok (.getfield 20, 3) := by decide +kernel
theorem dX5_glueAt_8 : decode cX5_glueAt 8 = .ok (.iconst 0, 1) := by decide +kernel
theorem dX5_glueAt_9 : decode cX5_glueAt 9 = .ok (.aaload, 1) := by decide +kernel
theorem dX5_glueAt_10 : decode cX5_glueAt 10 = .ok (.goto 20, 3) := by decide +kernel
theorem dX5_glueAt_13 : decode cX5_glueAt 13 = .ok (.aload_n 0, 1) := by decide +kernel
theorem dX5_glueAt_14 : decode cX5_glueAt 14 = .ok (.getfield 20, 3) := by decide +kernel
theorem dX5_glueAt_17 : decode cX5_glueAt 17 = .ok (.aload_n 0, 1) := by decide +kernel
theorem dX5_glueAt_18 : decode cX5_glueAt 18 = .ok (.getfield 12, 3) := by decide +kernel
theorem dX5_glueAt_21 : decode cX5_glueAt 21 = .ok (.iload_n 1, 1) := by decide +kernel
theorem dX5_glueAt_22 : decode cX5_glueAt 22 = .ok (.iconst 1, 1) := by decide +kernel
theorem dX5_glueAt_23 : decode cX5_glueAt 23 = .ok (.isub, 1) := by decide +kernel
theorem dX5_glueAt_24 : decode cX5_glueAt 24 = .ok (.invokevirtual 93, 3) := by decide +kernel
theorem dX5_glueAt_27 : decode cX5_glueAt 27 = .ok (.iconst 1, 1) := by decide +kernel
theorem dX5_glueAt_28 : decode cX5_glueAt 28 = .ok (.iadd, 1) := by decide +kernel
theorem dX5_glueAt_29 : decode cX5_glueAt 29 = .ok (.aaload, 1) := by decide +kernel
theorem dX5_glueAt_30 : decode cX5_glueAt 30 = .ok (.areturn, 1) := by decide +kernel
theorem dX5_tell_0 : decode cX5_tell 0 = .ok (.iload_n 1, 1) := by decide +kernel
theorem dX5_tell_1 : decode cX5_tell 1 = .ok (.tableswitch 78 0 4 #[35, 44, 53, 59, 65], 35) := by decide +kernel
theorem dX5_tell_36 : decode cX5_tell 36 = .ok (.aload_n 0, 1) := by decide +kernel
theorem dX5_tell_37 : decode cX5_tell 37 = .ok (.getfield 12, 3) := by decide +kernel
theorem dX5_tell_40 : decode cX5_tell 40 = .ok (.getfield 60, 3) := by decide +kernel
theorem dX5_tell_43 : decode cX5_tell 43 = .ok (.i2l, 1) := by decide +kernel
theorem dX5_tell_44 : decode cX5_tell 44 = .ok (.lreturn, 1) := by decide +kernel
theorem dX5_tell_45 : decode cX5_tell 45 = .ok (.aload_n 0, 1) := by decide +kernel
theorem dX5_tell_46 : decode cX5_tell 46 = .ok (.getfield 12, 3) := by decide +kernel
theorem dX5_tell_49 : decode cX5_tell 49 = .ok (.getfield 97, 3) := by decide +kernel
theorem dX5_tell_52 : decode cX5_tell 52 = .ok (.i2l, 1) := by decide +kernel
theorem dX5_tell_53 : decode cX5_tell 53 = .ok (.lreturn, 1) := by decide +kernel
theorem dX5_tell_54 : decode cX5_tell 54 = .ok (.aload_n 0, 1) := by decide +kernel
theorem dX5_tell_55 : decode cX5_tell 55 = .ok (.getfield 41, 3) := by decide +kernel
theorem dX5_tell_58 : decode cX5_tell 58 = .ok (.i2l, 1) := by decide +kernel
theorem dX5_tell_59 : decode cX5_tell 59 = .ok (.lreturn, 1) := by decide +kernel
theorem dX5_tell_60 : decode cX5_tell 60 = .ok (.aload_n 0, 1) := by decide +kernel
theorem dX5_tell_61 : decode cX5_tell 61 = .ok (.invokevirtual 100, 3) := by decide +kernel
theorem dX5_tell_64 : decode cX5_tell 64 = .ok (.i2l, 1) := by decide +kernel
theorem dX5_tell_65 : decode cX5_tell 65 = .ok (.lreturn, 1) := by decide +kernel
theorem dX5_tell_66 : decode cX5_tell 66 = .ok (.aload_n 0, 1) := by decide +kernel
theorem dX5_tell_67 : decode cX5_tell 67 = .ok (.getfield 51, 3) := by decide +kernel
theorem dX5_tell_70 : decode cX5_tell 70 = .ok (.ifCond .eq 7, 3) := by decide +kernel
theorem dX5_tell_73 : decode cX5_tell 73 = .ok (.lconst 1, 1) := by decide +kernel
theorem dX5_tell_74 : decode cX5_tell 74 = .ok (.goto 4, 3) := by decide +kernel
theorem dX5_tell_77 : decode cX5_tell 77 = .ok (.lconst 0, 1) := by decide +kernel
theorem dX5_tell_78 : decode cX5_tell 78 = .ok (.lreturn, 1) := by decide +kernel
theorem dX5_tell_79 : decode cX5_tell 79 = .ok (.aload_n 0, 1) := by decide +kernel
theorem dX5_tell_80 : decode cX5_tell 80 = .ok (.getfield 12, 3) := by decide +kernel
theorem dX5_tell_83 : decode cX5_tell 83 = .ok (.getfield 103, 3) := by decide +kernel
theorem dX5_tell_86 : decode cX5_tell 86 = .ok (.i2l, 1) := by decide +kernel
theorem dX5_tell_87 : decode cX5_tell 87 = .ok (.lreturn, 1) := by decide +kernel
theorem dX6_init_0 : decode cX6_init 0 = .ok (.aload_n 0, 1) := by decide +kernel
theorem dX6_init_1 : decode cX6_init 1 = .ok (.invokespecial 1, 3) := by decide +kernel
theorem dX6_init_4 : decode cX6_init 4 = .ok (.aload_n 0, 1) := by decide +kernel
theorem dX6_init_5 : decode cX6_init 5 = .ok (.bipush 6, 2) := by decide +kernel
theorem dX6_init_7 : decode cX6_init 7 = .ok (.anewarray 9, 3) := by decide +kernel
theorem dX6_init_10 : decode cX6_init 10 = .ok (.putfield 11, 3) := by decide +kernel
theorem dX6_init_13 : decode cX6_init 13 = .ok (.aload_n 0, 1) := by decide +kernel
theorem dX6_init_14 : decode cX6_init 14 = .ok (.iconst 0, 1) := by decide +kernel
theorem dX6_init_15 : decode cX6_init 15 = .ok (.putfield 15, 3) := by decide +kernel
theorem dX6_init_18 : decode cX6_init 18 = .ok (.return_, 1) := by decide +kernel
theorem dX6_table_0 : decode cX6_table 0 = .ok (.aload_n 0, 1) := by decide +kernel
theorem dX6_table_1 : decode cX6_table 1 = .ok (.getfield 15, 3) := by decide +kernel
theorem dX6_table_4 : decode cX6_table 4 = .ok (.bipush 6, 2) := by decide +kernel
theorem dX6_table_6 : decode cX6_table 6 = .ok (.if_icmp .lt 6, 3) := by decide +kernel
theorem dX6_table_9 : decode cX6_table 9 = .ok (.bipush (-4), 2) := by decide +kernel
theorem dX6_table_11 : decode cX6_table 11 = .ok (.ireturn, 1) := by decide +kernel
theorem dX6_table_12 : decode cX6_table 12 = .ok (.aload_n 0, 1) := by decide +kernel
theorem dX6_table_13 : decode cX6_table 13 = .ok (.getfield 11, 3) := by decide +kernel
theorem dX6_table_16 : decode cX6_table 16 = .ok (.aload_n 0, 1) := by decide +kernel
theorem dX6_table_17 : decode cX6_table 17 = .ok (.getfield 15, 3) := by decide +kernel
theorem dX6_table_20 : decode cX6_table 20 = .ok (.new 9, 3) := by decide +kernel
theorem dX6_table_23 : decode cX6_table 23 = .ok (.dup, 1) := by decide +kernel
theorem dX6_table_24 : decode cX6_table 24 = .ok (.invokespecial 19, 3) := by decide +kernel
theorem dX6_table_27 : decode cX6_table 27 = .ok (.aastore, 1) := by decide +kernel
theorem dX6_table_28 : decode cX6_table 28 = .ok (.aload_n 0, 1) := by decide +kernel
theorem dX6_table_29 : decode cX6_table 29 = .ok (.dup, 1) := by decide +kernel
theorem dX6_table_30 : decode cX6_table 30 = .ok (.getfield 15, 3) := by decide +kernel
theorem dX6_table_33 : decode cX6_table 33 = .ok (.iconst 1, 1) := by decide +kernel
theorem dX6_table_34 : decode cX6_table 34 = .ok (.iadd, 1) := by decide +kernel
theorem dX6_table_35 : decode cX6_table 35 = .ok (.putfield 15, 3) := by decide +kernel
theorem dX6_table_38 : decode cX6_table 38 = .ok (.aload_n 0, 1) := by decide +kernel
theorem dX6_table_39 : decode cX6_table 39 = .ok (.getfield 15, 3) := by decide +kernel
theorem dX6_table_42 : decode cX6_table 42 = .ok (.iconst 1, 1) := by decide +kernel
theorem dX6_table_43 : decode cX6_table 43 = .ok (.isub, 1) := by decide +kernel
theorem dX6_table_44 : decode cX6_table 44 = .ok (.ireturn, 1) := by decide +kernel
theorem dX6_type_0 : decode cX6_type 0 = .ok (.aload_n 0, 1) := by decide +kernel
theorem dX6_type_1 : decode cX6_type 1 = .ok (.iload_n 1, 1) := by decide +kernel
theorem dX6_type_2 : decode cX6_type 2 = .ok (.invokevirtual 20, 3) := by decide +kernel
theorem dX6_type_5 : decode cX6_type 5 = .ok (.astore 5, 2) := by decide +kernel
theorem dX6_type_7 : decode cX6_type 7 = .ok (.aload 5, 2) := by decide +kernel
theorem dX6_type_9 : decode cX6_type 9 = .ok (.ifnonnull 5, 3) := by decide +kernel
theorem dX6_type_12 : decode cX6_type 12 = .ok (.iconst (-1), 1) := by decide +kernel
theorem dX6_type_13 : decode cX6_type 13 = .ok (.ireturn, 1) := by decide +kernel
theorem dX6_type_14 : decode cX6_type 14 = .ok (.aload 5, 2) := by decide +kernel
theorem dX6_type_16 : decode cX6_type 16 = .ok (.getfield 24, 3) := by decide +kernel
theorem dX6_type_19 : decode cX6_type 19 = .ok (.iload_n 2, 1) := by decide +kernel
theorem dX6_type_20 : decode cX6_type 20 = .ok (.iload_n 3, 1) := by decide +kernel
theorem dX6_type_21 : decode cX6_type 21 = .ok (.iload 4, 2) := by decide +kernel
theorem dX6_type_23 : decode cX6_type 23 = .ok (.invokevirtual 28, 3) := by decide +kernel
theorem dX6_type_26 : decode cX6_type 26 = .ok (.ireturn, 1) := by decide +kernel
theorem dX6_lay_0 : decode cX6_lay 0 = .ok (.aload_n 0, 1) := by decide +kernel
theorem dX6_lay_1 : decode cX6_lay 1 = .ok (.iload_n 1, 1) := by decide +kernel
theorem dX6_lay_2 : decode cX6_lay 2 = .ok (.invokevirtual 20, 3) := by decide +kernel
theorem dX6_lay_5 : decode cX6_lay 5 = .ok (.astore_n 2, 1) := by decide +kernel
theorem dX6_lay_6 : decode cX6_lay 6 = .ok (.aload_n 2, 1) := by decide +kernel
theorem dX6_lay_7 : decode cX6_lay 7 = .ok (.ifnonnull 5, 3) := by decide +kernel
theorem dX6_lay_10 : decode cX6_lay 10 = .ok (.iconst (-1), 1) := by decide +kernel
theorem dX6_lay_11 : decode cX6_lay 11 = .ok (.ireturn, 1) := by decide +kernel
theorem dX6_lay_12 : decode cX6_lay 12 = .ok (.aload_n 2, 1) := by decide +kernel
theorem dX6_lay_13 : decode cX6_lay 13 = .ok (.getfield 24, 3) := by decide +kernel
theorem dX6_lay_16 : decode cX6_lay 16 = .ok (.invokevirtual 34, 3) := by decide +kernel
theorem dX6_lay_19 : decode cX6_lay 19 = .ok (.ireturn, 1) := by decide +kernel
theorem dX6_glue_0 : decode cX6_glue 0 = .ok (.aload_n 0, 1) := by decide +kernel
theorem dX6_glue_1 : decode cX6_glue 1 = .ok (.iload_n 1, 1) := by decide +kernel
theorem dX6_glue_2 : decode cX6_glue 2 = .ok (.invokevirtual 20, 3) := by decide +kernel
theorem dX6_glue_5 : decode cX6_glue 5 = .ok (.astore 6, 2) := by decide +kernel
theorem dX6_glue_7 : decode cX6_glue 7 = .ok (.aload 6, 2) := by decide +kernel
theorem dX6_glue_9 : decode cX6_glue 9 = .ok (.ifnonnull 5, 3) := by decide +kernel
theorem dX6_glue_12 : decode cX6_glue 12 = .ok (.iconst (-1), 1) := by decide +kernel
theorem dX6_glue_13 : decode cX6_glue 13 = .ok (.ireturn, 1) := by decide +kernel
theorem dX6_glue_14 : decode cX6_glue 14 = .ok (.aload 6, 2) := by decide +kernel
theorem dX6_glue_16 : decode cX6_glue 16 = .ok (.iload_n 2, 1) := by decide +kernel
theorem dX6_glue_17 : decode cX6_glue 17 = .ok (.invokevirtual 38, 3) := by decide +kernel
theorem dX6_glue_20 : decode cX6_glue 20 = .ok (.istore 7, 2) := by decide +kernel
theorem dX6_glue_22 : decode cX6_glue 22 = .ok (.iload 7, 2) := by decide +kernel
theorem dX6_glue_24 : decode cX6_glue 24 = .ok (.ifCond .eq 6, 3) := by decide +kernel
theorem dX6_glue_27 : decode cX6_glue 27 = .ok (.iload 7, 2) := by decide +kernel
theorem dX6_glue_29 : decode cX6_glue 29 = .ok (.ireturn, 1) := by decide +kernel
theorem dX6_glue_30 : decode cX6_glue 30 = .ok (.iload_n 3, 1) := by decide +kernel
theorem dX6_glue_31 : decode cX6_glue 31 = .ok (.sipush (-10000), 3) := by decide +kernel
theorem dX6_glue_34 : decode cX6_glue 34 = .ok (.sipush 10000, 3) := by decide +kernel
theorem dX6_glue_37 : decode cX6_glue 37 = .ok (.invokestatic 42, 3) := by decide +kernel
theorem dX6_glue_40 : decode cX6_glue 40 = .ok (.ifCond .eq 25, 3) := by decide +kernel
theorem dX6_glue_43 : decode cX6_glue 43 = .ok (.iload 4, 2) := by decide +kernel
theorem dX6_glue_45 : decode cX6_glue 45 = .ok (.iconst 0, 1) := by decide +kernel
theorem dX6_glue_46 : decode cX6_glue 46 = .ok (.sipush 10000, 3) := by decide +kernel
theorem dX6_glue_49 : decode cX6_glue 49 = .ok (.invokestatic 42, 3) := by decide +kernel
theorem dX6_glue_52 : decode cX6_glue 52 = .ok (.ifCond .eq 13, 3) := by decide +kernel
theorem dX6_glue_55 : decode cX6_glue 55 = .ok (.iload 5, 2) := by decide +kernel
theorem dX6_glue_57 : decode cX6_glue 57 = .ok (.iconst 0, 1) := by decide +kernel
theorem dX6_glue_58 : decode cX6_glue 58 = .ok (.iconst 3, 1) := by decide +kernel
theorem dX6_glue_59 : decode cX6_glue 59 = .ok (.invokestatic 42, 3) := by decide +kernel
theorem dX6_glue_62 : decode cX6_glue 62 = .ok (.ifCond .ne 6, 3) := by decide +kernel
theorem dX6_glue_65 : decode cX6_glue 65 = .ok (.bipush (-2), 2) := by decide +kernel
theorem dX6_glue_67 : decode cX6_glue 67 = .ok (.ireturn, 1) := by decide +kernel
theorem dX6_glue_68 : decode cX6_glue 68 = .ok (.aload 6, 2) := by decide +kernel
theorem dX6_glue_70 : decode cX6_glue 70 = .ok (.getfield 46, 3) := by decide +kernel
theorem dX6_glue_73 : decode cX6_glue 73 = .ok (.iload_n 2, 1) := by decide +kernel
theorem dX6_glue_74 : decode cX6_glue 74 = .ok (.aaload, 1) := by decide +kernel
theorem dX6_glue_75 : decode cX6_glue 75 = .ok (.iload_n 3, 1) := by decide +kernel
theorem dX6_glue_76 : decode cX6_glue 76 = .ok (.iload 4, 2) := by decide +kernel
theorem dX6_glue_78 : decode cX6_glue 78 = .ok (.iload 5, 2) := by decide +kernel
theorem dX6_glue_80 : decode cX6_glue 80 = .ok (.invokevirtual 50, 3) := by decide +kernel
theorem dX6_glue_83 : decode cX6_glue 83 = .ok (.iconst 1, 1) := by decide +kernel
theorem dX6_glue_84 : decode cX6_glue 84 = .ok (.ireturn, 1) := by decide +kernel
theorem dX6_shrink_0 : decode cX6_shrink 0 = .ok (.aload_n 0, 1) := by decide +kernel
theorem dX6_shrink_1 : decode cX6_shrink 1 = .ok (.iload_n 1, 1) := by decide +kernel
theorem dX6_shrink_2 : decode cX6_shrink 2 = .ok (.invokevirtual 20, 3) := by decide +kernel
theorem dX6_shrink_5 : decode cX6_shrink 5 = .ok (.astore 5, 2) := by decide +kernel
theorem dX6_shrink_7 : decode cX6_shrink 7 = .ok (.aload 5, 2) := by decide +kernel
theorem dX6_shrink_9 : decode cX6_shrink 9 = .ok (.ifnonnull 5, 3) := by decide +kernel
theorem dX6_shrink_12 : decode cX6_shrink 12 = .ok (.iconst (-1), 1) := by decide +kernel
theorem dX6_shrink_13 : decode cX6_shrink 13 = .ok (.ireturn, 1) := by decide +kernel
theorem dX6_shrink_14 : decode cX6_shrink 14 = .ok (.aload 5, 2) := by decide +kernel
theorem dX6_shrink_16 : decode cX6_shrink 16 = .ok (.iload_n 2, 1) := by decide +kernel
theorem dX6_shrink_17 : decode cX6_shrink 17 = .ok (.invokevirtual 38, 3) := by decide +kernel
theorem dX6_shrink_20 : decode cX6_shrink 20 = .ok (.istore 6, 2) := by decide +kernel
theorem dX6_shrink_22 : decode cX6_shrink 22 = .ok (.iload 6, 2) := by decide +kernel
theorem dX6_shrink_24 : decode cX6_shrink 24 = .ok (.ifCond .eq 6, 3) := by decide +kernel
theorem dX6_shrink_27 : decode cX6_shrink 27 = .ok (.iload 6, 2) := by decide +kernel
theorem dX6_shrink_29 : decode cX6_shrink 29 = .ok (.ireturn, 1) := by decide +kernel
theorem dX6_shrink_30 : decode cX6_shrink 30 = .ok (.iload_n 3, 1) := by decide +kernel
theorem dX6_shrink_31 : decode cX6_shrink 31 = .ok (.iconst 0, 1) := by decide +kernel
theorem dX6_shrink_32 : decode cX6_shrink 32 = .ok (.sipush 10000, 3) := by decide +kernel
theorem dX6_shrink_35 : decode cX6_shrink 35 = .ok (.invokestatic 42, 3) := by decide +kernel
theorem dX6_shrink_38 : decode cX6_shrink 38 = .ok (.ifCond .eq 13, 3) := by decide +kernel
theorem dX6_shrink_41 : decode cX6_shrink 41 = .ok (.iload 4, 2) := by decide +kernel
theorem dX6_shrink_43 : decode cX6_shrink 43 = .ok (.iconst 0, 1) := by decide +kernel
theorem dX6_shrink_44 : decode cX6_shrink 44 = .ok (.iconst 3, 1) := by decide +kernel
theorem dX6_shrink_45 : decode cX6_shrink 45 = .ok (.invokestatic 42, 3) := by decide +kernel
theorem dX6_shrink_48 : decode cX6_shrink 48 = .ok (.ifCond .ne 6, 3) := by decide +kernel
theorem dX6_shrink_51 : decode cX6_shrink 51 = .ok (.bipush (-2), 2) := by decide +kernel
theorem dX6_shrink_53 : decode cX6_shrink 53 = .ok (.ireturn, 1) := by decide +kernel
theorem dX6_shrink_54 : decode cX6_shrink 54 = .ok (.aload 5, 2) := by decide +kernel
theorem dX6_shrink_56 : decode cX6_shrink 56 = .ok (.getfield 46, 3) := by decide +kernel
theorem dX6_shrink_59 : decode cX6_shrink 59 = .ok (.iload_n 2, 1) := by decide +kernel
theorem dX6_shrink_60 : decode cX6_shrink 60 = .ok (.aaload, 1) := by decide +kernel
theorem dX6_shrink_61 : decode cX6_shrink 61 = .ok (.iload_n 3, 1) := by decide +kernel
theorem dX6_shrink_62 : decode cX6_shrink 62 = .ok (.iload 4, 2) := by decide +kernel
theorem dX6_shrink_64 : decode cX6_shrink 64 = .ok (.invokevirtual 56, 3) := by decide +kernel
theorem dX6_shrink_67 : decode cX6_shrink 67 = .ok (.iconst 1, 1) := by decide +kernel
theorem dX6_shrink_68 : decode cX6_shrink 68 = .ok (.ireturn, 1) := by decide +kernel
theorem dX6_row_0 : decode cX6_row 0 = .ok (.aload_n 0, 1) := by decide +kernel
theorem dX6_row_1 : decode cX6_row 1 = .ok (.iload_n 1, 1) := by decide +kernel
theorem dX6_row_2 : decode cX6_row 2 = .ok (.invokevirtual 20, 3) := by decide +kernel
theorem dX6_row_5 : decode cX6_row 5 = .ok (.astore_n 2, 1) := by decide +kernel
theorem dX6_row_6 : decode cX6_row 6 = .ok (.aload_n 2, 1) := by decide +kernel
theorem dX6_row_7 : decode cX6_row 7 = .ok (.ifnonnull 5, 3) := by decide +kernel
theorem dX6_row_10 : decode cX6_row 10 = .ok (.iconst (-1), 1) := by decide +kernel
theorem dX6_row_11 : decode cX6_row 11 = .ok (.ireturn, 1) := by decide +kernel
theorem dX6_row_12 : decode cX6_row 12 = .ok (.aload_n 2, 1) := by decide +kernel
theorem dX6_row_13 : decode cX6_row 13 = .ok (.invokevirtual 60, 3) := by decide +kernel
theorem dX6_row_16 : decode cX6_row 16 = .ok (.ireturn, 1) := by decide +kernel
theorem dX6_entry_0 : decode cX6_entry 0 = .ok (.aload_n 0, 1) := by decide +kernel
theorem dX6_entry_1 : decode cX6_entry 1 = .ok (.iload_n 1, 1) := by decide +kernel
theorem dX6_entry_2 : decode cX6_entry 2 = .ok (.invokevirtual 20, 3) := by decide +kernel
theorem dX6_entry_5 : decode cX6_entry 5 = .ok (.astore 5, 2) := by decide +kernel
theorem dX6_entry_7 : decode cX6_entry 7 = .ok (.aload 5, 2) := by decide +kernel
theorem dX6_entry_9 : decode cX6_entry 9 = .ok (.ifnonnull 5, 3) := by decide +kernel
theorem dX6_entry_12 : decode cX6_entry 12 = .ok (.iconst (-1), 1) := by decide +kernel
theorem dX6_entry_13 : decode cX6_entry 13 = .ok (.ireturn, 1) := by decide +kernel
theorem dX6_entry_14 : decode cX6_entry 14 = .ok (.aload 5, 2) := by decide +kernel
theorem dX6_entry_16 : decode cX6_entry 16 = .ok (.getfield 63, 3) := by decide +kernel
theorem dX6_entry_19 : decode cX6_entry 19 = .ok (.ifCond .ne 6, 3) := by decide +kernel
theorem dX6_entry_22 : decode cX6_entry 22 = .ok (.bipush (-3), 2) := by decide +kernel
theorem dX6_entry_24 : decode cX6_entry 24 = .ok (.ireturn, 1) := by decide +kernel
theorem dX6_entry_25 : decode cX6_entry 25 = .ok (.iload_n 2, 1) := by decide +kernel
theorem dX6_entry_26 : decode cX6_entry 26 = .ok (.iconst 0, 1) := by decide +kernel
theorem dX6_entry_27 : decode cX6_entry 27 = .ok (.ldc 67, 2) := by decide +kernel
theorem dX6_entry_29 : decode cX6_entry 29 = .ok (.invokestatic 42, 3) := by decide +kernel
theorem dX6_entry_32 : decode cX6_entry 32 = .ok (.ifCond .ne 6, 3) := by decide +kernel
theorem dX6_entry_35 : decode cX6_entry 35 = .ok (.bipush (-2), 2) := by decide +kernel
theorem dX6_entry_37 : decode cX6_entry 37 = .ok (.ireturn, 1) := by decide +kernel
theorem dX6_entry_38 : decode cX6_entry 38 = .ok (.aload 5, 2) := by decide +kernel
theorem dX6_entry_40 : decode cX6_entry 40 = .ok (.iload_n 2, 1) := by decide +kernel
theorem dX6_entry_41 : decode cX6_entry 41 = .ok (.iload_n 3, 1) := by decide +kernel
theorem dX6_entry_42 : decode cX6_entry 42 = .ok (.iload 4, 2) := by decide +kernel
theorem dX6_entry_44 : decode cX6_entry 44 = .ok (.invokevirtual 68, 3) := by decide +kernel
theorem dX6_entry_47 : decode cX6_entry 47 = .ok (.ireturn, 1) := by decide +kernel
theorem dX6_nest_0 : decode cX6_nest 0 = .ok (.aload_n 0, 1) := by decide +kernel
theorem dX6_nest_1 : decode cX6_nest 1 = .ok (.iload_n 1, 1) := by decide +kernel
theorem dX6_nest_2 : decode cX6_nest 2 = .ok (.invokevirtual 20, 3) := by decide +kernel
theorem dX6_nest_5 : decode cX6_nest 5 = .ok (.astore 4, 2) := by decide +kernel
theorem dX6_nest_7 : decode cX6_nest 7 = .ok (.aload_n 0, 1) := by decide +kernel
theorem dX6_nest_8 : decode cX6_nest 8 = .ok (.iload_n 2, 1) := by decide +kernel
theorem dX6_nest_9 : decode cX6_nest 9 = .ok (.invokevirtual 20, 3) := by decide +kernel
theorem dX6_nest_12 : decode cX6_nest 12 = .ok (.astore 5, 2) := by decide +kernel
theorem dX6_nest_14 : decode cX6_nest 14 = .ok (.aload 4, 2) := by decide +kernel
theorem dX6_nest_16 : decode cX6_nest 16 = .ok (.ifnull 8, 3) := by decide +kernel
theorem dX6_nest_19 : decode cX6_nest 19 = .ok (.aload 5, 2) := by decide +kernel
theorem dX6_nest_21 : decode cX6_nest 21 = .ok (.ifnonnull 5, 3) := by decide +kernel
theorem dX6_nest_24 : decode cX6_nest 24 = .ok (.iconst (-1), 1) := by decide +kernel
theorem dX6_nest_25 : decode cX6_nest 25 = .ok (.ireturn, 1) := by decide +kernel
theorem dX6_nest_26 : decode cX6_nest 26 = .ok (.aload 4, 2) := by decide +kernel
theorem dX6_nest_28 : decode cX6_nest 28 = .ok (.getfield 63, 3) := by decide +kernel
theorem dX6_nest_31 : decode cX6_nest 31 = .ok (.ifCond .eq 19, 3) := by decide +kernel
theorem dX6_nest_34 : decode cX6_nest 34 = .ok (.iload_n 1, 1) := by decide +kernel
theorem dX6_nest_35 : decode cX6_nest 35 = .ok (.iload_n 2, 1) := by decide +kernel
theorem dX6_nest_36 : decode cX6_nest 36 = .ok (.if_icmp .eq 14, 3) := by decide +kernel
theorem dX6_nest_39 : decode cX6_nest 39 = .ok (.aload 5, 2) := by decide +kernel
theorem dX6_nest_41 : decode cX6_nest 41 = .ok (.getfield 72, 3) := by decide +kernel
theorem dX6_nest_44 : decode cX6_nest 44 = .ok (.invokevirtual 76, 3) := by decide +kernel
theorem dX6_nest_47 : decode cX6_nest 47 = .ok (.ifCond .ne 6, 3) := by decide +kernel
theorem dX6_nest_50 : decode cX6_nest 50 = .ok (.bipush (-3), 2) := by decide +kernel
theorem dX6_nest_52 : decode cX6_nest 52 = .ok (.ireturn, 1) := by decide +kernel
theorem dX6_nest_53 : decode cX6_nest 53 = .ok (.aload 4, 2) := by decide +kernel
theorem dX6_nest_55 : decode cX6_nest 55 = .ok (.aload 5, 2) := by decide +kernel
theorem dX6_nest_57 : decode cX6_nest 57 = .ok (.getfield 72, 3) := by decide +kernel
theorem dX6_nest_60 : decode cX6_nest 60 = .ok (.invokevirtual 82, 3) := by decide +kernel
theorem dX6_nest_63 : decode cX6_nest 63 = .ok (.l2i, 1) := by decide +kernel
theorem dX6_nest_64 : decode cX6_nest 64 = .ok (.iload_n 3, 1) := by decide +kernel
theorem dX6_nest_65 : decode cX6_nest 65 = .ok (.iconst 1, 1) := by decide +kernel
theorem dX6_nest_66 : decode cX6_nest 66 = .ok (.invokevirtual 68, 3) := by decide +kernel
theorem dX6_nest_69 : decode cX6_nest 69 = .ok (.ireturn, 1) := by decide +kernel
theorem dX6_end_0 : decode cX6_end 0 = .ok (.aload_n 0, 1) := by decide +kernel
theorem dX6_end_1 : decode cX6_end 1 = .ok (.iload_n 1, 1) := by decide +kernel
theorem dX6_end_2 : decode cX6_end 2 = .ok (.invokevirtual 20, 3) := by decide +kernel
theorem dX6_end_5 : decode cX6_end 5 = .ok (.astore_n 2, 1) := by decide +kernel
theorem dX6_end_6 : decode cX6_end 6 = .ok (.aload_n 2, 1) := by decide +kernel
theorem dX6_end_7 : decode cX6_end 7 = .ok (.ifnonnull 5, 3) := by decide +kernel
theorem dX6_end_10 : decode cX6_end 10 = .ok (.iconst (-1), 1) := by decide +kernel
theorem dX6_end_11 : decode cX6_end 11 = .ok (.ireturn, 1) := by decide +kernel
theorem dX6_end_12 : decode cX6_end 12 = .ok (.aload_n 2, 1) := by decide +kernel
theorem dX6_end_13 : decode cX6_end 13 = .ok (.invokevirtual 86, 3) := by decide +kernel
theorem dX6_end_16 : decode cX6_end 16 = .ok (.ireturn, 1) := by decide +kernel
theorem dX6_between_0 : decode cX6_between 0 = .ok (.aload_n 0, 1) := by decide +kernel
theorem dX6_between_1 : decode cX6_between 1 = .ok (.iload_n 1, 1) := by decide +kernel
theorem dX6_between_2 : decode cX6_between 2 = .ok (.invokevirtual 20, 3) := by decide +kernel
theorem dX6_between_5 : decode cX6_between 5 = .ok (.astore_n 2, 1) := by decide +kernel
theorem dX6_between_6 : decode cX6_between 6 = .ok (.aload_n 2, 1) := by decide +kernel
theorem dX6_between_7 : decode cX6_between 7 = .ok (.ifnonnull 5, 3) := by decide +kernel
theorem dX6_between_10 : decode cX6_between 10 = .ok (.iconst (-1), 1) := by decide +kernel
theorem dX6_between_11 : decode cX6_between 11 = .ok (.ireturn, 1) := by decide +kernel
theorem dX6_between_12 : decode cX6_between 12 = .ok (.aload_n 2, 1) := by decide +kernel
theorem dX6_between_13 : decode cX6_between 13 = .ok (.invokevirtual 89, 3) := by decide +kernel
theorem dX6_between_16 : decode cX6_between 16 = .ok (.ireturn, 1) := by decide +kernel
theorem dX6_run_0 : decode cX6_run 0 = .ok (.aload_n 0, 1) := by decide +kernel
theorem dX6_run_1 : decode cX6_run 1 = .ok (.iload_n 1, 1) := by decide +kernel
theorem dX6_run_2 : decode cX6_run 2 = .ok (.invokevirtual 20, 3) := by decide +kernel
theorem dX6_run_5 : decode cX6_run 5 = .ok (.astore 4, 2) := by decide +kernel
theorem dX6_run_7 : decode cX6_run 7 = .ok (.aload 4, 2) := by decide +kernel
theorem dX6_run_9 : decode cX6_run 9 = .ok (.ifnonnull 7, 3) := by decide +kernel
theorem dX6_run_12 : decode cX6_run 12 = .ok (.ldc2_w 92, 3) := by decide +kernel
theorem dX6_run_15 : decode cX6_run 15 = .ok (.lreturn, 1) := by decide +kernel
theorem dX6_run_16 : decode cX6_run 16 = .ok (.aload 4, 2) := by decide +kernel
theorem dX6_run_18 : decode cX6_run 18 = .ok (.invokevirtual 94, 3) := by decide +kernel
theorem dX6_run_21 : decode cX6_run 21 = .ok (.ifCond .ne 7, 3) := by decide +kernel
theorem dX6_run_24 : decode cX6_run 24 = .ok (.ldc2_w 97, 3) := by decide +kernel
theorem dX6_run_27 : decode cX6_run 27 = .ok (.lreturn, 1) := by decide +kernel
theorem dX6_run_28 : decode cX6_run 28 = .ok (.iload_n 2, 1) := by decide +kernel
theorem dX6_run_29 : decode cX6_run 29 = .ok (.iconst 0, 1) := by decide +kernel
theorem dX6_run_30 : decode cX6_run 30 = .ok (.iconst 2, 1) := by decide +kernel
theorem dX6_run_31 : decode cX6_run 31 = .ok (.invokestatic 42, 3) := by decide +kernel
theorem dX6_run_34 : decode cX6_run 34 = .ok (.ifCond .eq 18, 3) := by decide +kernel
theorem dX6_run_37 : decode cX6_run 37 = .ok (.iload_n 2, 1) := by decide +kernel
theorem dX6_run_38 : decode cX6_run 38 = .ok (.ifCond .eq 18, 3) := by decide +kernel
theorem dX6_run_41 : decode cX6_run 41 = .ok (.iload_n 3, 1) := by decide +kernel
theorem dX6_run_42 : decode cX6_run 42 = .ok (.ldc 99, 2) := by decide +kernel
theorem dX6_run_44 : decode cX6_run 44 = .ok (.ldc 100, 2) := by decide +kernel
theorem dX6_run_46 : decode cX6_run 46 = .ok (.invokestatic 42, 3) := by decide +kernel
theorem dX6_run_49 : decode cX6_run 49 = .ok (.ifCond .ne 7, 3) := by decide +kernel
theorem dX6_run_52 : decode cX6_run 52 = .ok (.ldc2_w 101, 3) := by decide +kernel
theorem dX6_run_55 : decode cX6_run 55 = .ok (.lreturn, 1) := by decide +kernel
theorem dX6_run_56 : decode cX6_run 56 = .ok (.aload 4, 2) := by decide +kernel
theorem dX6_run_58 : decode cX6_run 58 = .ok (.getfield 72, 3) := by decide +kernel
theorem dX6_run_61 : decode cX6_run 61 = .ok (.aload 4, 2) := by decide +kernel
theorem dX6_run_63 : decode cX6_run 63 = .ok (.iload_n 2, 1) := by decide +kernel
theorem dX6_run_64 : decode cX6_run 64 = .ok (.iload_n 3, 1) := by decide +kernel
theorem dX6_run_65 : decode cX6_run 65 = .ok (.invokevirtual 103, 3) := by decide +kernel
theorem dX6_run_68 : decode cX6_run 68 = .ok (.lreturn, 1) := by decide +kernel
theorem dX6_width_0 : decode cX6_width 0 = .ok (.aload_n 0, 1) := by decide +kernel
theorem dX6_width_1 : decode cX6_width 1 = .ok (.iload_n 1, 1) := by decide +kernel
theorem dX6_width_2 : decode cX6_width 2 = .ok (.invokevirtual 20, 3) := by decide +kernel
theorem dX6_width_5 : decode cX6_width 5 = .ok (.astore_n 3, 1) := by decide +kernel
theorem dX6_width_6 : decode cX6_width 6 = .ok (.aload_n 3, 1) := by decide +kernel
theorem dX6_width_7 : decode cX6_width 7 = .ok (.ifnull 14, 3) := by decide +kernel
theorem dX6_width_10 : decode cX6_width 10 = .ok (.aload_n 3, 1) := by decide +kernel
theorem dX6_width_11 : decode cX6_width 11 = .ok (.getfield 72, 3) := by decide +kernel
theorem dX6_width_14 : decode cX6_width 14 = .ok (.iload_n 2, 1) := by decide +kernel
theorem dX6_width_15 : decode cX6_width 15 = .ok (.invokevirtual 107, 3) := by decide +kernel
theorem dX6_width_18 : decode cX6_width 18 = .ok (.ifCond .ne 5, 3) := by decide +kernel
theorem dX6_width_21 : decode cX6_width 21 = .ok (.iconst (-1), 1) := by decide +kernel
theorem dX6_width_22 : decode cX6_width 22 = .ok (.ireturn, 1) := by decide +kernel
theorem dX6_width_23 : decode cX6_width 23 = .ok (.aload_n 3, 1) := by decide +kernel
theorem dX6_width_24 : decode cX6_width 24 = .ok (.getfield 72, 3) := by decide +kernel
theorem dX6_width_27 : decode cX6_width 27 = .ok (.getfield 111, 3) := by decide +kernel
theorem dX6_width_30 : decode cX6_width 30 = .ok (.iload_n 2, 1) := by decide +kernel
theorem dX6_width_31 : decode cX6_width 31 = .ok (.iaload, 1) := by decide +kernel
theorem dX6_width_32 : decode cX6_width 32 = .ok (.ireturn, 1) := by decide +kernel
theorem dX6_isVoid_0 : decode cX6_isVoid 0 = .ok (.aload_n 0, 1) := by decide +kernel
theorem dX6_isVoid_1 : decode cX6_isVoid 1 = .ok (.iload_n 1, 1) := by decide +kernel
theorem dX6_isVoid_2 : decode cX6_isVoid 2 = .ok (.invokevirtual 20, 3) := by decide +kernel
theorem dX6_isVoid_5 : decode cX6_isVoid 5 = .ok (.astore_n 3, 1) := by decide +kernel
theorem dX6_isVoid_6 : decode cX6_isVoid 6 = .ok (.aload_n 3, 1) := by decide +kernel
theorem dX6_isVoid_7 : decode cX6_isVoid 7 = .ok (.ifnull 30, 3) := by decide +kernel
theorem dX6_isVoid_10 : decode cX6_isVoid 10 = .ok (.aload_n 3, 1) := by decide +kernel
theorem dX6_isVoid_11 : decode cX6_isVoid 11 = .ok (.getfield 72, 3) := by decide +kernel
theorem dX6_isVoid_14 : decode cX6_isVoid 14 = .ok (.iload_n 2, 1) := by decide +kernel
theorem dX6_isVoid_15 : decode cX6_isVoid 15 = .ok (.invokevirtual 107, 3) := by decide +kernel
theorem dX6_isVoid_18 : decode cX6_isVoid 18 = .ok (.ifCond .eq 19, 3) := by decide +kernel
theorem dX6_isVoid_21 : decode cX6_isVoid 21 = .ok (.aload_n 3, 1) := by decide +kernel
theorem dX6_isVoid_22 : decode cX6_isVoid 22 = .ok (.getfield 72, 3) := by decide +kernel
theorem dX6_isVoid_25 : decode cX6_isVoid 25 = .ok (.getfield 115, 3) := by decide +kernel
theorem dX6_isVoid_28 : decode cX6_isVoid 28 = .ok (.iload_n 2, 1) := by decide +kernel
theorem dX6_isVoid_29 : decode cX6_isVoid 29 = .ok (.baload, 1) := by decide +kernel
theorem dX6_isVoid_30 : decode cX6_isVoid 30 = .ok (.ifCond .eq 7, 3) := by decide +kernel
theorem dX6_isVoid_33 : decode cX6_isVoid 33 = .ok (.iconst 1, 1) := by decide +kernel
theorem dX6_isVoid_34 : decode cX6_isVoid 34 = .ok (.goto 4, 3) := by decide +kernel
theorem dX6_isVoid_37 : decode cX6_isVoid 37 = .ok (.iconst 0, 1) := by decide +kernel
theorem dX6_isVoid_38 : decode cX6_isVoid 38 = .ok (.ireturn, 1) := by decide +kernel
theorem dX6_place_0 : decode cX6_place 0 = .ok (.aload_n 0, 1) := by decide +kernel
theorem dX6_place_1 : decode cX6_place 1 = .ok (.iload_n 1, 1) := by decide +kernel
theorem dX6_place_2 : decode cX6_place 2 = .ok (.invokevirtual 20, 3) := by decide +kernel
theorem dX6_place_5 : decode cX6_place 5 = .ok (.astore_n 3, 1) := by decide +kernel
theorem dX6_place_6 : decode cX6_place 6 = .ok (.aload_n 3, 1) := by decide +kernel
theorem dX6_place_7 : decode cX6_place 7 = .ok (.ifnull 14, 3) := by decide +kernel
theorem dX6_place_10 : decode cX6_place 10 = .ok (.aload_n 3, 1) := by decide +kernel
theorem dX6_place_11 : decode cX6_place 11 = .ok (.getfield 72, 3) := by decide +kernel
theorem dX6_place_14 : decode cX6_place 14 = .ok (.iload_n 2, 1) := by decide +kernel
theorem dX6_place_15 : decode cX6_place 15 = .ok (.invokevirtual 107, 3) := by decide +kernel
theorem dX6_place_18 : decode cX6_place 18 = .ok (.ifCond .ne 11, 3) := by decide +kernel
theorem dX6_place_21 : decode cX6_place 21 = .ok (.new 119, 3) := by decide +kernel
theorem dX6_place_24 : decode cX6_place 24 = .ok (.dup, 1) := by decide +kernel
theorem dX6_place_25 : decode cX6_place 25 = .ok (.invokespecial 121, 3) := by decide +kernel
theorem dX6_place_28 : decode cX6_place 28 = .ok (.athrow, 1) := by decide +kernel
theorem dX6_place_29 : decode cX6_place 29 = .ok (.aload_n 3, 1) := by decide +kernel
theorem dX6_place_30 : decode cX6_place 30 = .ok (.getfield 72, 3) := by decide +kernel
theorem dX6_place_33 : decode cX6_place 33 = .ok (.getfield 122, 3) := by decide +kernel
theorem dX6_place_36 : decode cX6_place 36 = .ok (.iload_n 2, 1) := by decide +kernel
theorem dX6_place_37 : decode cX6_place 37 = .ok (.laload, 1) := by decide +kernel
theorem dX6_place_38 : decode cX6_place 38 = .ok (.lreturn, 1) := by decide +kernel
theorem dX6_at_0 : decode cX6_at 0 = .ok (.aload_n 0, 1) := by decide +kernel
theorem dX6_at_1 : decode cX6_at 1 = .ok (.iload_n 1, 1) := by decide +kernel
theorem dX6_at_2 : decode cX6_at 2 = .ok (.invokevirtual 20, 3) := by decide +kernel
theorem dX6_at_5 : decode cX6_at 5 = .ok (.astore 5, 2) := by decide +kernel
theorem dX6_at_7 : decode cX6_at 7 = .ok (.aload 5, 2) := by decide +kernel
theorem dX6_at_9 : decode cX6_at 9 = .ok (.ifnull 13, 3) := by decide +kernel
theorem dX6_at_12 : decode cX6_at 12 = .ok (.aload 5, 2) := by decide +kernel
theorem dX6_at_14 : decode cX6_at 14 = .ok (.iload_n 2, 1) := by decide +kernel
theorem dX6_at_15 : decode cX6_at 15 = .ok (.iload_n 3, 1) := by decide +kernel
theorem dX6_at_16 : decode cX6_at 16 = .ok (.invokevirtual 126, 3) := by decide +kernel
theorem dX6_at_19 : decode cX6_at 19 = .ok (.ifCond .ne 11, 3) := by decide +kernel
theorem dX6_at_22 : decode cX6_at 22 = .ok (.new 119, 3) := by decide +kernel
theorem dX6_at_25 : decode cX6_at 25 = .ok (.dup, 1) := by decide +kernel
theorem dX6_at_26 : decode cX6_at 26 = .ok (.invokespecial 121, 3) := by decide +kernel
theorem dX6_at_29 : decode cX6_at 29 = .ok (.athrow, 1) := by decide +kernel
theorem dX6_at_30 : decode cX6_at 30 = .ok (.aload 5, 2) := by decide +kernel
theorem dX6_at_32 : decode cX6_at 32 = .ok (.getfield 130, 3) := by decide +kernel
theorem dX6_at_35 : decode cX6_at 35 = .ok (.iload_n 2, 1) := by decide +kernel
theorem dX6_at_36 : decode cX6_at 36 = .ok (.aaload, 1) := by decide +kernel
theorem dX6_at_37 : decode cX6_at 37 = .ok (.astore 6, 2) := by decide +kernel
theorem dX6_at_39 : decode cX6_at 39 = .ok (.iload 4, 2) := by decide +kernel
theorem dX6_at_41 : decode cX6_at 41 = .ok (.tableswitch 108 0 4 #[35, 44, 53, 62, 85], 35) := by decide +kernel
theorem dX6_at_76 : decode cX6_at 76 = .ok (.aload 6, 2) := by decide +kernel
theorem dX6_at_78 : decode cX6_at 78 = .ok (.getfield 134, 3) := by decide +kernel
theorem dX6_at_81 : decode cX6_at 81 = .ok (.iload_n 3, 1) := by decide +kernel
theorem dX6_at_82 : decode cX6_at 82 = .ok (.iaload, 1) := by decide +kernel
theorem dX6_at_83 : decode cX6_at 83 = .ok (.i2l, 1) := by decide +kernel
theorem dX6_at_84 : decode cX6_at 84 = .ok (.lreturn, 1) := by decide +kernel
theorem dX6_at_85 : decode cX6_at 85 = .ok (.aload 6, 2) := by decide +kernel
theorem dX6_at_87 : decode cX6_at 87 = .ok (.getfield 137, 3) := by decide +kernel
theorem dX6_at_90 : decode cX6_at 90 = .ok (.iload_n 3, 1) := by decide +kernel
theorem dX6_at_91 : decode cX6_at 91 = .ok (.iaload, 1) := by decide +kernel
theorem dX6_at_92 : decode cX6_at 92 = .ok (.i2l, 1) := by decide +kernel
theorem dX6_at_93 : decode cX6_at 93 = .ok (.lreturn, 1) := by decide +kernel
theorem dX6_at_94 : decode cX6_at 94 = .ok (.aload 6, 2) := by decide +kernel
theorem dX6_at_96 : decode cX6_at 96 = .ok (.getfield 140, 3) := by decide +kernel
theorem dX6_at_99 : decode cX6_at 99 = .ok (.iload_n 3, 1) := by decide +kernel
theorem dX6_at_100 : decode cX6_at 100 = .ok (.iaload, 1) := by decide +kernel
theorem dX6_at_101 : decode cX6_at 101 = .ok (.i2l, 1) := by decide +kernel
theorem dX6_at_102 : decode cX6_at 102 = .ok (.lreturn, 1) := by decide +kernel
theorem dX6_at_103 : decode cX6_at 103 = .ok (.aload 5, 2) := by decide +kernel
theorem dX6_at_105 : decode cX6_at 105 = .ok (.getfield 72, 3) := by decide +kernel
theorem dX6_at_108 : decode cX6_at 108 = .ok (.aload 6, 2) := by decide +kernel
theorem dX6_at_110 : decode cX6_at 110 = .ok (.getfield 137, 3) := by decide +kernel
theorem dX6_at_113 : decode cX6_at 113 = .ok (.iload_n 3, 1) := by decide +kernel
theorem dX6_at_114 : decode cX6_at 114 = .ok (.iaload, 1) := by decide +kernel
theorem dX6_at_115 : decode cX6_at 115 = .ok (.aload 6, 2) := by decide +kernel
theorem dX6_at_117 : decode cX6_at 117 = .ok (.getfield 140, 3) := by decide +kernel
theorem dX6_at_120 : decode cX6_at 120 = .ok (.iload_n 3, 1) := by decide +kernel
theorem dX6_at_121 : decode cX6_at 121 = .ok (.iaload, 1) := by decide +kernel
theorem dX6_at_122 : decode cX6_at 122 = .ok (.invokevirtual 143, 3) := by decide +kernel
theorem dX6_at_125 : decode cX6_at 125 = .ok (.lreturn, 1) := by decide +kernel
theorem dX6_at_126 : decode cX6_at 126 = .ok (.aload 5, 2) := by decide +kernel
theorem dX6_at_128 : decode cX6_at 128 = .ok (.getfield 72, 3) := by decide +kernel
theorem dX6_at_131 : decode cX6_at 131 = .ok (.aload 6, 2) := by decide +kernel
theorem dX6_at_133 : decode cX6_at 133 = .ok (.getfield 137, 3) := by decide +kernel
theorem dX6_at_136 : decode cX6_at 136 = .ok (.iload_n 3, 1) := by decide +kernel
theorem dX6_at_137 : decode cX6_at 137 = .ok (.iaload, 1) := by decide +kernel
theorem dX6_at_138 : decode cX6_at 138 = .ok (.aload 6, 2) := by decide +kernel
theorem dX6_at_140 : decode cX6_at 140 = .ok (.getfield 140, 3) := by decide +kernel
theorem dX6_at_143 : decode cX6_at 143 = .ok (.iload_n 3, 1) := by decide +kernel
theorem dX6_at_144 : decode cX6_at 144 = .ok (.iaload, 1) := by decide +kernel
theorem dX6_at_145 : decode cX6_at 145 = .ok (.invokevirtual 147, 3) := by decide +kernel
theorem dX6_at_148 : decode cX6_at 148 = .ok (.lreturn, 1) := by decide +kernel
theorem dX6_at_149 : decode cX6_at 149 = .ok (.new 119, 3) := by decide +kernel
theorem dX6_at_152 : decode cX6_at 152 = .ok (.dup, 1) := by decide +kernel
theorem dX6_at_153 : decode cX6_at 153 = .ok (.invokespecial 121, 3) := by decide +kernel
theorem dX6_at_156 : decode cX6_at 156 = .ok (.athrow, 1) := by decide +kernel
theorem dX6_item_0 : decode cX6_item 0 = .ok (.aload_n 0, 1) := by decide +kernel
theorem dX6_item_1 : decode cX6_item 1 = .ok (.iload_n 1, 1) := by decide +kernel
theorem dX6_item_2 : decode cX6_item 2 = .ok (.invokevirtual 20, 3) := by decide +kernel
theorem dX6_item_5 : decode cX6_item 5 = .ok (.astore_n 3, 1) := by decide +kernel
theorem dX6_item_6 : decode cX6_item 6 = .ok (.aload_n 3, 1) := by decide +kernel
theorem dX6_item_7 : decode cX6_item 7 = .ok (.ifnull 17, 3) := by decide +kernel
theorem dX6_item_10 : decode cX6_item 10 = .ok (.iload_n 2, 1) := by decide +kernel
theorem dX6_item_11 : decode cX6_item 11 = .ok (.iconst 0, 1) := by decide +kernel
theorem dX6_item_12 : decode cX6_item 12 = .ok (.aload_n 3, 1) := by decide +kernel
theorem dX6_item_13 : decode cX6_item 13 = .ok (.getfield 150, 3) := by decide +kernel
theorem dX6_item_16 : decode cX6_item 16 = .ok (.iconst 1, 1) := by decide +kernel
theorem dX6_item_17 : decode cX6_item 17 = .ok (.isub, 1) := by decide +kernel
theorem dX6_item_18 : decode cX6_item 18 = .ok (.invokestatic 42, 3) := by decide +kernel
theorem dX6_item_21 : decode cX6_item 21 = .ok (.ifCond .ne 11, 3) := by decide +kernel
theorem dX6_item_24 : decode cX6_item 24 = .ok (.new 119, 3) := by decide +kernel
theorem dX6_item_27 : decode cX6_item 27 = .ok (.dup, 1) := by decide +kernel
theorem dX6_item_28 : decode cX6_item 28 = .ok (.invokespecial 121, 3) := by decide +kernel
theorem dX6_item_31 : decode cX6_item 31 = .ok (.athrow, 1) := by decide +kernel
theorem dX6_item_32 : decode cX6_item 32 = .ok (.aload_n 3, 1) := by decide +kernel
theorem dX6_item_33 : decode cX6_item 33 = .ok (.getfield 153, 3) := by decide +kernel
theorem dX6_item_36 : decode cX6_item 36 = .ok (.iload_n 2, 1) := by decide +kernel
theorem dX6_item_37 : decode cX6_item 37 = .ok (.iaload, 1) := by decide +kernel
theorem dX6_item_38 : decode cX6_item 38 = .ok (.ireturn, 1) := by decide +kernel
theorem dX6_count_0 : decode cX6_count 0 = .ok (.aload_n 0, 1) := by decide +kernel
theorem dX6_count_1 : decode cX6_count 1 = .ok (.iload_n 1, 1) := by decide +kernel
theorem dX6_count_2 : decode cX6_count 2 = .ok (.invokevirtual 20, 3) := by decide +kernel
theorem dX6_count_5 : decode cX6_count 5 = .ok (.astore_n 3, 1) := by decide +kernel
theorem dX6_count_6 : decode cX6_count 6 = .ok (.aload_n 3, 1) := by decide +kernel
theorem dX6_count_7 : decode cX6_count 7 = .ok (.ifnull 13, 3) := by decide +kernel
theorem dX6_count_10 : decode cX6_count 10 = .ok (.iload_n 2, 1) := by decide +kernel
theorem dX6_count_11 : decode cX6_count 11 = .ok (.iconst 0, 1) := by decide +kernel
theorem dX6_count_12 : decode cX6_count 12 = .ok (.bipush 11, 2) := by decide +kernel
theorem dX6_count_14 : decode cX6_count 14 = .ok (.invokestatic 42, 3) := by decide +kernel
theorem dX6_count_17 : decode cX6_count 17 = .ok (.ifCond .ne 11, 3) := by decide +kernel
theorem dX6_count_20 : decode cX6_count 20 = .ok (.new 119, 3) := by decide +kernel
theorem dX6_count_23 : decode cX6_count 23 = .ok (.dup, 1) := by decide +kernel
theorem dX6_count_24 : decode cX6_count 24 = .ok (.invokespecial 121, 3) := by decide +kernel
theorem dX6_count_27 : decode cX6_count 27 = .ok (.athrow, 1) := by decide +kernel
theorem dX6_count_28 : decode cX6_count 28 = .ok (.iload_n 2, 1) := by decide +kernel
theorem dX6_count_29 : decode cX6_count 29 = .ok (.bipush 6, 2) := by decide +kernel
theorem dX6_count_31 : decode cX6_count 31 = .ok (.if_icmp .ge 11, 3) := by decide +kernel
theorem dX6_count_34 : decode cX6_count 34 = .ok (.aload_n 3, 1) := by decide +kernel
theorem dX6_count_35 : decode cX6_count 35 = .ok (.iload_n 2, 1) := by decide +kernel
theorem dX6_count_36 : decode cX6_count 36 = .ok (.invokevirtual 156, 3) := by decide +kernel
theorem dX6_count_39 : decode cX6_count 39 = .ok (.goto 11, 3) := by decide +kernel
theorem dX6_count_42 : decode cX6_count 42 = .ok (.aload_n 3, 1) := by decide +kernel
theorem dX6_count_43 : decode cX6_count 43 = .ok (.getfield 72, 3) := by decide +kernel
theorem dX6_count_46 : decode cX6_count 46 = .ok (.iload_n 2, 1) := by decide +kernel
theorem dX6_count_47 : decode cX6_count 47 = .ok (.invokevirtual 160, 3) := by decide +kernel
theorem dX6_count_50 : decode cX6_count 50 = .ok (.lreturn, 1) := by decide +kernel
theorem dX6_find_0 : decode cX6_find 0 = .ok (.iload_n 1, 1) := by decide +kernel
theorem dX6_find_1 : decode cX6_find 1 = .ok (.iconst 0, 1) := by decide +kernel
theorem dX6_find_2 : decode cX6_find 2 = .ok (.aload_n 0, 1) := by decide +kernel
theorem dX6_find_3 : decode cX6_find 3 = .ok (.getfield 15, 3) := by decide +kernel
theorem dX6_find_6 : decode cX6_find 6 = .ok (.iconst 1, 1) := by decide +kernel
theorem dX6_find_7 : decode cX6_find 7 = .ok (.isub, 1) := by decide +kernel
theorem dX6_find_8 : decode cX6_find 8 = .ok (.invokestatic 42, 3) := by decide +kernel
theorem dX6_find_11 : decode cX6_find 11 = .ok (.ifCond .eq 12, 3) := by decide +kernel
theorem dX6_find_14 : decode cX6_find 14 = .ok (.aload_n 0, 1) := by decide +kernel
theorem dX6_find_15 : decode cX6_find 15 = .ok (.getfield 11, 3) := by decide +kernel
theorem dX6_find_18 : decode cX6_find 18 = .ok (.iload_n 1, 1) := by decide +kernel
theorem dX6_find_19 : decode cX6_find 19 = .ok (.aaload, 1) := by decide +kernel
theorem dX6_find_20 : decode cX6_find 20 = .ok (.goto 4, 3) := by decide +kernel
theorem dX6_find_23 : decode cX6_find 23 = .ok (.aconst_null, 1) := by decide +kernel
theorem dX6_find_24 : decode cX6_find 24 = .ok (.areturn, 1) := by decide +kernel
theorem dX6_isIn_0 : decode cX6_isIn 0 = .ok (.iload_n 0, 1) := by decide +kernel
theorem dX6_isIn_1 : decode cX6_isIn 1 = .ok (.iload_n 1, 1) := by decide +kernel
theorem dX6_isIn_2 : decode cX6_isIn 2 = .ok (.if_icmp .lt 12, 3) := by decide +kernel
theorem dX6_isIn_5 : decode cX6_isIn 5 = .ok (.iload_n 0, 1) := by decide +kernel
theorem dX6_isIn_6 : decode cX6_isIn 6 = .ok (.iload_n 2, 1) := by decide +kernel
theorem dX6_isIn_7 : decode cX6_isIn 7 = .ok (.if_icmp .gt 7, 3) := by decide +kernel
theorem dX6_isIn_10 : decode cX6_isIn 10 = .ok (.iconst 1, 1) := by decide +kernel
theorem dX6_isIn_11 : decode cX6_isIn 11 = .ok (.goto 4, 3) := by decide +kernel
theorem dX6_isIn_14 : decode cX6_isIn 14 = .ok (.iconst 0, 1) := by decide +kernel
theorem dX6_isIn_15 : decode cX6_isIn 15 = .ok (.ireturn, 1) := by decide +kernel
theorem dJx00060_init_da8c8_0 : decode cJx00060_init_da8c8 0 = .ok (.aload_n 0, 1) := by decide +kernel
theorem dJx00060_init_da8c8_1 : decode cJx00060_init_da8c8 1 = .ok (.invokespecial 1, 3) := by decide +kernel
theorem dJx00060_init_da8c8_4 : decode cJx00060_init_da8c8 4 = .ok (.return_, 1) := by decide +kernel
theorem dJx00060_init_a7421_0 : decode cJx00060_init_a7421 0 = .ok (.aload_n 0, 1) := by decide +kernel
theorem dJx00060_init_a7421_1 : decode cJx00060_init_a7421 1 = .ok (.aload_n 1, 1) := by decide +kernel
theorem dJx00060_init_a7421_2 : decode cJx00060_init_a7421 2 = .ok (.invokespecial 7, 3) := by decide +kernel
theorem dJx00060_init_a7421_5 : decode cJx00060_init_a7421 5 = .ok (.return_, 1) := by decide +kernel
theorem dJ9_abs_067f4_0 : decode cJ9_abs_067f4 0 = .ok (.lload_n 0, 1) := by decide +kernel
theorem dJ9_abs_067f4_1 : decode cJ9_abs_067f4 1 = .ok (.lconst 0, 1) := by decide +kernel
theorem dJ9_abs_067f4_2 : decode cJ9_abs_067f4 2 = .ok (.lcmp, 1) := by decide +kernel
theorem dJ9_abs_067f4_3 : decode cJ9_abs_067f4 3 = .ok (.ifCond .ge 8, 3) := by decide +kernel
theorem dJ9_abs_067f4_6 : decode cJ9_abs_067f4 6 = .ok (.lload_n 0, 1) := by decide +kernel
theorem dJ9_abs_067f4_7 : decode cJ9_abs_067f4 7 = .ok (.lneg, 1) := by decide +kernel
theorem dJ9_abs_067f4_8 : decode cJ9_abs_067f4 8 = .ok (.goto 4, 3) := by decide +kernel
theorem dJ9_abs_067f4_11 : decode cJ9_abs_067f4 11 = .ok (.lload_n 0, 1) := by decide +kernel
theorem dJ9_abs_067f4_12 : decode cJ9_abs_067f4 12 = .ok (.lreturn, 1) := by decide +kernel
theorem dJ9_max_7cf53_0 : decode cJ9_max_7cf53 0 = .ok (.iload_n 0, 1) := by decide +kernel
theorem dJ9_max_7cf53_1 : decode cJ9_max_7cf53 1 = .ok (.iload_n 1, 1) := by decide +kernel
theorem dJ9_max_7cf53_2 : decode cJ9_max_7cf53 2 = .ok (.if_icmp .lt 7, 3) := by decide +kernel
theorem dJ9_max_7cf53_5 : decode cJ9_max_7cf53 5 = .ok (.iload_n 0, 1) := by decide +kernel
theorem dJ9_max_7cf53_6 : decode cJ9_max_7cf53 6 = .ok (.goto 4, 3) := by decide +kernel
theorem dJ9_max_7cf53_9 : decode cJ9_max_7cf53 9 = .ok (.iload_n 1, 1) := by decide +kernel
theorem dJ9_max_7cf53_10 : decode cJ9_max_7cf53 10 = .ok (.ireturn, 1) := by decide +kernel
theorem dJ9_min_f86c9_0 : decode cJ9_min_f86c9 0 = .ok (.lload_n 0, 1) := by decide +kernel
theorem dJ9_min_f86c9_1 : decode cJ9_min_f86c9 1 = .ok (.lload_n 2, 1) := by decide +kernel
theorem dJ9_min_f86c9_2 : decode cJ9_min_f86c9 2 = .ok (.lcmp, 1) := by decide +kernel
theorem dJ9_min_f86c9_3 : decode cJ9_min_f86c9 3 = .ok (.ifCond .gt 7, 3) := by decide +kernel
theorem dJ9_min_f86c9_6 : decode cJ9_min_f86c9 6 = .ok (.lload_n 0, 1) := by decide +kernel
theorem dJ9_min_f86c9_7 : decode cJ9_min_f86c9 7 = .ok (.goto 4, 3) := by decide +kernel
theorem dJ9_min_f86c9_10 : decode cJ9_min_f86c9 10 = .ok (.lload_n 2, 1) := by decide +kernel
theorem dJ9_min_f86c9_11 : decode cJ9_min_f86c9 11 = .ok (.lreturn, 1) := by decide +kernel
theorem dJ7_fill_53178_0 : decode cJ7_fill_53178 0 = .ok (.iconst 0, 1) := by decide +kernel
theorem dJ7_fill_53178_1 : decode cJ7_fill_53178 1 = .ok (.istore_n 2, 1) := by decide +kernel
theorem dJ7_fill_53178_2 : decode cJ7_fill_53178 2 = .ok (.aload_n 0, 1) := by decide +kernel
theorem dJ7_fill_53178_3 : decode cJ7_fill_53178 3 = .ok (.arraylength, 1) := by decide +kernel
theorem dJ7_fill_53178_4 : decode cJ7_fill_53178 4 = .ok (.istore_n 3, 1) := by decide +kernel
theorem dJ7_fill_53178_5 : decode cJ7_fill_53178 5 = .ok (.iload_n 2, 1) := by decide +kernel
theorem dJ7_fill_53178_6 : decode cJ7_fill_53178 6 = .ok (.iload_n 3, 1) := by decide +kernel
theorem dJ7_fill_53178_7 : decode cJ7_fill_53178 7 = .ok (.if_icmp .ge 13, 3) := by decide +kernel
theorem dJ7_fill_53178_10 : decode cJ7_fill_53178 10 = .ok (.aload_n 0, 1) := by decide +kernel
theorem dJ7_fill_53178_11 : decode cJ7_fill_53178 11 = .ok (.iload_n 2, 1) := by decide +kernel
theorem dJ7_fill_53178_12 : decode cJ7_fill_53178 12 = .ok (.iload_n 1, 1) := by decide +kernel
theorem dJ7_fill_53178_13 : decode cJ7_fill_53178 13 = .ok (.iastore, 1) := by decide +kernel
theorem dJ7_fill_53178_14 : decode cJ7_fill_53178 14 = .ok (.iinc 2 1, 3) := by decide +kernel
theorem dJ7_fill_53178_17 : decode cJ7_fill_53178 17 = .ok (.goto (-12), 3) := by decide +kernel
theorem dJ7_fill_53178_20 : decode cJ7_fill_53178 20 = .ok (.return_, 1) := by decide +kernel
end
section
theorem dX7_init_0 : decode cX7_init 0 = .ok (.aload_n 0, 1) := by decide +kernel
theorem dX7_init_1 : decode cX7_init 1 = .ok (.invokespecial 1, 3) := by decide +kernel
theorem dX7_init_4 : decode cX7_init 4 = .ok (.aload_n 0, 1) := by decide +kernel
theorem dX7_init_5 : decode cX7_init 5 = .ok (.sipush 240, 3) := by decide +kernel
theorem dX7_init_8 : decode cX7_init 8 = .ok (.newarray .int, 2) := by decide +kernel
theorem dX7_init_10 : decode cX7_init 10 = .ok (.putfield 7, 3) := by decide +kernel
theorem dX7_init_13 : decode cX7_init 13 = .ok (.aload_n 0, 1) := by decide +kernel
theorem dX7_init_14 : decode cX7_init 14 = .ok (.bipush 6, 2) := by decide +kernel
theorem dX7_init_16 : decode cX7_init 16 = .ok (.newarray .int, 2) := by decide +kernel
theorem dX7_init_18 : decode cX7_init 18 = .ok (.putfield 13, 3) := by decide +kernel
theorem dX7_init_21 : decode cX7_init 21 = .ok (.aload_n 0, 1) := by decide +kernel
theorem dX7_init_22 : decode cX7_init 22 = .ok (.bipush 6, 2) := by decide +kernel
theorem dX7_init_24 : decode cX7_init 24 = .ok (.newarray .boolean, 2) := by decide +kernel
theorem dX7_init_26 : decode cX7_init 26 = .ok (.putfield 16, 3) := by decide +kernel
theorem dX7_init_29 : decode cX7_init 29 = .ok (.aload_n 0, 1) := by decide +kernel
theorem dX7_init_30 : decode cX7_init 30 = .ok (.bipush 6, 2) := by decide +kernel
theorem dX7_init_32 : decode cX7_init 32 = .ok (.newarray .int, 2) := by decide +kernel
theorem dX7_init_34 : decode cX7_init 34 = .ok (.putfield 20, 3) := by decide +kernel
theorem dX7_init_37 : decode cX7_init 37 = .ok (.aload_n 0, 1) := by decide +kernel
theorem dX7_init_38 : decode cX7_init 38 = .ok (.bipush 6, 2) := by decide +kernel
theorem dX7_init_40 : decode cX7_init 40 = .ok (.newarray .int, 2) := by decide +kernel
theorem dX7_init_42 : decode cX7_init 42 = .ok (.putfield 23, 3) := by decide +kernel
theorem dX7_init_45 : decode cX7_init 45 = .ok (.aload_n 0, 1) := by decide +kernel
theorem dX7_init_46 : decode cX7_init 46 = .ok (.bipush 72, 2) := by decide +kernel
theorem dX7_init_48 : decode cX7_init 48 = .ok (.newarray .int, 2) := by decide +kernel
theorem dX7_init_50 : decode cX7_init 50 = .ok (.putfield 26, 3) := by decide +kernel
theorem dX7_init_53 : decode cX7_init 53 = .ok (.aload_n 0, 1) := by decide +kernel
theorem dX7_init_54 : decode cX7_init 54 = .ok (.bipush 72, 2) := by decide +kernel
theorem dX7_init_56 : decode cX7_init 56 = .ok (.newarray .int, 2) := by decide +kernel
theorem dX7_init_58 : decode cX7_init 58 = .ok (.putfield 29, 3) := by decide +kernel
theorem dX7_init_61 : decode cX7_init 61 = .ok (.aload_n 0, 1) := by decide +kernel
theorem dX7_init_62 : decode cX7_init 62 = .ok (.bipush 78, 2) := by decide +kernel
theorem dX7_init_64 : decode cX7_init 64 = .ok (.newarray .int, 2) := by decide +kernel
theorem dX7_init_66 : decode cX7_init 66 = .ok (.putfield 32, 3) := by decide +kernel
theorem dX7_init_69 : decode cX7_init 69 = .ok (.aload_n 0, 1) := by decide +kernel
theorem dX7_init_70 : decode cX7_init 70 = .ok (.bipush 78, 2) := by decide +kernel
theorem dX7_init_72 : decode cX7_init 72 = .ok (.newarray .int, 2) := by decide +kernel
theorem dX7_init_74 : decode cX7_init 74 = .ok (.putfield 35, 3) := by decide +kernel
theorem dX7_init_77 : decode cX7_init 77 = .ok (.aload_n 0, 1) := by decide +kernel
theorem dX7_init_78 : decode cX7_init 78 = .ok (.bipush 78, 2) := by decide +kernel
theorem dX7_init_80 : decode cX7_init 80 = .ok (.newarray .int, 2) := by decide +kernel
theorem dX7_init_82 : decode cX7_init 82 = .ok (.putfield 38, 3) := by decide +kernel
theorem dX7_init_85 : decode cX7_init 85 = .ok (.aload_n 0, 1) := by decide +kernel
theorem dX7_init_86 : decode cX7_init 86 = .ok (.bipush 78, 2) := by decide +kernel
theorem dX7_init_88 : decode cX7_init 88 = .ok (.newarray .int, 2) := by decide +kernel
theorem dX7_init_90 : decode cX7_init 90 = .ok (.putfield 41, 3) := by decide +kernel
theorem dX7_init_93 : decode cX7_init 93 = .ok (.aload_n 0, 1) := by decide +kernel
theorem dX7_init_94 : decode cX7_init 94 = .ok (.bipush 78, 2) := by decide +kernel
theorem dX7_init_96 : decode cX7_init 96 = .ok (.newarray .int, 2) := by decide +kernel
theorem dX7_init_98 : decode cX7_init 98 = .ok (.putfield 44, 3) := by decide +kernel
theorem dX7_init_101 : decode cX7_init 101 = .ok (.aload_n 0, 1) := by decide +kernel
theorem dX7_init_102 : decode cX7_init 102 = .ok (.bipush 6, 2) := by decide +kernel
theorem dX7_init_104 : decode cX7_init 104 = .ok (.newarray .int, 2) := by decide +kernel
theorem dX7_init_106 : decode cX7_init 106 = .ok (.putfield 47, 3) := by decide +kernel
theorem dX7_init_109 : decode cX7_init 109 = .ok (.aload_n 0, 1) := by decide +kernel
theorem dX7_init_110 : decode cX7_init 110 = .ok (.bipush 6, 2) := by decide +kernel
theorem dX7_init_112 : decode cX7_init 112 = .ok (.newarray .boolean, 2) := by decide +kernel
theorem dX7_init_114 : decode cX7_init 114 = .ok (.putfield 50, 3) := by decide +kernel
theorem dX7_init_117 : decode cX7_init 117 = .ok (.aload_n 0, 1) := by decide +kernel
theorem dX7_init_118 : decode cX7_init 118 = .ok (.bipush 120, 2) := by decide +kernel
theorem dX7_init_120 : decode cX7_init 120 = .ok (.newarray .int, 2) := by decide +kernel
theorem dX7_init_122 : decode cX7_init 122 = .ok (.putfield 53, 3) := by decide +kernel
theorem dX7_init_125 : decode cX7_init 125 = .ok (.aload_n 0, 1) := by decide +kernel
theorem dX7_init_126 : decode cX7_init 126 = .ok (.bipush 120, 2) := by decide +kernel
theorem dX7_init_128 : decode cX7_init 128 = .ok (.newarray .int, 2) := by decide +kernel
theorem dX7_init_130 : decode cX7_init 130 = .ok (.putfield 56, 3) := by decide +kernel
theorem dX7_init_133 : decode cX7_init 133 = .ok (.aload_n 0, 1) := by decide +kernel
theorem dX7_init_134 : decode cX7_init 134 = .ok (.bipush 6, 2) := by decide +kernel
theorem dX7_init_136 : decode cX7_init 136 = .ok (.newarray .int, 2) := by decide +kernel
theorem dX7_init_138 : decode cX7_init 138 = .ok (.putfield 59, 3) := by decide +kernel
theorem dX7_init_141 : decode cX7_init 141 = .ok (.aload_n 0, 1) := by decide +kernel
theorem dX7_init_142 : decode cX7_init 142 = .ok (.sipush 2880, 3) := by decide +kernel
theorem dX7_init_145 : decode cX7_init 145 = .ok (.newarray .int, 2) := by decide +kernel
theorem dX7_init_147 : decode cX7_init 147 = .ok (.putfield 62, 3) := by decide +kernel
theorem dX7_init_150 : decode cX7_init 150 = .ok (.aload_n 0, 1) := by decide +kernel
theorem dX7_init_151 : decode cX7_init 151 = .ok (.sipush 2880, 3) := by decide +kernel
theorem dX7_init_154 : decode cX7_init 154 = .ok (.newarray .int, 2) := by decide +kernel
theorem dX7_init_156 : decode cX7_init 156 = .ok (.putfield 65, 3) := by decide +kernel
theorem dX7_init_159 : decode cX7_init 159 = .ok (.aload_n 0, 1) := by decide +kernel
theorem dX7_init_160 : decode cX7_init 160 = .ok (.sipush 2880, 3) := by decide +kernel
theorem dX7_init_163 : decode cX7_init 163 = .ok (.newarray .int, 2) := by decide +kernel
theorem dX7_init_165 : decode cX7_init 165 = .ok (.putfield 68, 3) := by decide +kernel
theorem dX7_init_168 : decode cX7_init 168 = .ok (.aload_n 0, 1) := by decide +kernel
theorem dX7_init_169 : decode cX7_init 169 = .ok (.bipush 6, 2) := by decide +kernel
theorem dX7_init_171 : decode cX7_init 171 = .ok (.newarray .int, 2) := by decide +kernel
theorem dX7_init_173 : decode cX7_init 173 = .ok (.putfield 71, 3) := by decide +kernel
theorem dX7_init_176 : decode cX7_init 176 = .ok (.aload_n 0, 1) := by decide +kernel
theorem dX7_init_177 : decode cX7_init 177 = .ok (.sipush 240, 3) := by decide +kernel
theorem dX7_init_180 : decode cX7_init 180 = .ok (.newarray .int, 2) := by decide +kernel
theorem dX7_init_182 : decode cX7_init 182 = .ok (.putfield 74, 3) := by decide +kernel
theorem dX7_init_185 : decode cX7_init 185 = .ok (.aload_n 0, 1) := by decide +kernel
theorem dX7_init_186 : decode cX7_init 186 = .ok (.bipush 6, 2) := by decide +kernel
theorem dX7_init_188 : decode cX7_init 188 = .ok (.newarray .int, 2) := by decide +kernel
theorem dX7_init_190 : decode cX7_init 190 = .ok (.putfield 77, 3) := by decide +kernel
theorem dX7_init_193 : decode cX7_init 193 = .ok (.aload_n 0, 1) := by decide +kernel
theorem dX7_init_194 : decode cX7_init 194 = .ok (.bipush 6, 2) := by decide +kernel
theorem dX7_init_196 : decode cX7_init 196 = .ok (.newarray .int, 2) := by decide +kernel
theorem dX7_init_198 : decode cX7_init 198 = .ok (.putfield 80, 3) := by decide +kernel
theorem dX7_init_201 : decode cX7_init 201 = .ok (.aload_n 0, 1) := by decide +kernel
theorem dX7_init_202 : decode cX7_init 202 = .ok (.bipush 6, 2) := by decide +kernel
theorem dX7_init_204 : decode cX7_init 204 = .ok (.newarray .int, 2) := by decide +kernel
theorem dX7_init_206 : decode cX7_init 206 = .ok (.putfield 83, 3) := by decide +kernel
theorem dX7_init_209 : decode cX7_init 209 = .ok (.aload_n 0, 1) := by decide +kernel
theorem dX7_init_210 : decode cX7_init 210 = .ok (.sipush 144, 3) := by decide +kernel
theorem dX7_init_213 : decode cX7_init 213 = .ok (.newarray .int, 2) := by decide +kernel
theorem dX7_init_215 : decode cX7_init 215 = .ok (.putfield 86, 3) := by decide +kernel
theorem dX7_init_218 : decode cX7_init 218 = .ok (.aload_n 0, 1) := by decide +kernel
theorem dX7_init_219 : decode cX7_init 219 = .ok (.sipush 144, 3) := by decide +kernel
theorem dX7_init_222 : decode cX7_init 222 = .ok (.newarray .boolean, 2) := by decide +kernel
theorem dX7_init_224 : decode cX7_init 224 = .ok (.putfield 89, 3) := by decide +kernel
theorem dX7_init_227 : decode cX7_init 227 = .ok (.aload_n 0, 1) := by decide +kernel
theorem dX7_init_228 : decode cX7_init 228 = .ok (.sipush 144, 3) := by decide +kernel
theorem dX7_init_231 : decode cX7_init 231 = .ok (.newarray .long, 2) := by decide +kernel
theorem dX7_init_233 : decode cX7_init 233 = .ok (.putfield 92, 3) := by decide +kernel
theorem dX7_init_236 : decode cX7_init 236 = .ok (.aload_n 0, 1) := by decide +kernel
theorem dX7_init_237 : decode cX7_init 237 = .ok (.bipush 6, 2) := by decide +kernel
theorem dX7_init_239 : decode cX7_init 239 = .ok (.newarray .long, 2) := by decide +kernel
theorem dX7_init_241 : decode cX7_init 241 = .ok (.putfield 96, 3) := by decide +kernel
theorem dX7_init_244 : decode cX7_init 244 = .ok (.aload_n 0, 1) := by decide +kernel
theorem dX7_init_245 : decode cX7_init 245 = .ok (.bipush 6, 2) := by decide +kernel
theorem dX7_init_247 : decode cX7_init 247 = .ok (.newarray .long, 2) := by decide +kernel
theorem dX7_init_249 : decode cX7_init 249 = .ok (.putfield 99, 3) := by decide +kernel
theorem dX7_init_252 : decode cX7_init 252 = .ok (.aload_n 0, 1) := by decide +kernel
theorem dX7_init_253 : decode cX7_init 253 = .ok (.bipush 6, 2) := by decide +kernel
theorem dX7_init_255 : decode cX7_init 255 = .ok (.newarray .int, 2) := by decide +kernel
theorem dX7_init_257 : decode cX7_init 257 = .ok (.putfield 102, 3) := by decide +kernel
theorem dX7_init_260 : decode cX7_init 260 = .ok (.aload_n 0, 1) := by decide +kernel
theorem dX7_init_261 : decode cX7_init 261 = .ok (.bipush 6, 2) := by decide +kernel
theorem dX7_init_263 : decode cX7_init 263 = .ok (.newarray .long, 2) := by decide +kernel
theorem dX7_init_265 : decode cX7_init 265 = .ok (.putfield 105, 3) := by decide +kernel
theorem dX7_init_268 : decode cX7_init 268 = .ok (.aload_n 0, 1) := by decide +kernel
theorem dX7_init_269 : decode cX7_init 269 = .ok (.sipush 480, 3) := by decide +kernel
theorem dX7_init_272 : decode cX7_init 272 = .ok (.newarray .int, 2) := by decide +kernel
theorem dX7_init_274 : decode cX7_init 274 = .ok (.putfield 108, 3) := by decide +kernel
theorem dX7_init_277 : decode cX7_init 277 = .ok (.aload_n 0, 1) := by decide +kernel
theorem dX7_init_278 : decode cX7_init 278 = .ok (.sipush 480, 3) := by decide +kernel
theorem dX7_init_281 : decode cX7_init 281 = .ok (.newarray .int, 2) := by decide +kernel
theorem dX7_init_283 : decode cX7_init 283 = .ok (.putfield 111, 3) := by decide +kernel
theorem dX7_init_286 : decode cX7_init 286 = .ok (.return_, 1) := by decide +kernel
theorem dX7_thrown_0 : decode cX7_thrown 0 = .ok (.aload_n 0, 1) := by decide +kernel
theorem dX7_thrown_1 : decode cX7_thrown 1 = .ok (.getfield 114, 3) := by decide +kernel
theorem dX7_thrown_4 : decode cX7_thrown 4 = .ok (.ireturn, 1) := by decide +kernel
theorem dX7_isTable_0 : decode cX7_isTable 0 = .ok (.iload_n 1, 1) := by decide +kernel
theorem dX7_isTable_1 : decode cX7_isTable 1 = .ok (.ifCond .lt 15, 3) := by decide +kernel
theorem dX7_isTable_4 : decode cX7_isTable 4 = .ok (.iload_n 1, 1) := by decide +kernel
theorem dX7_isTable_5 : decode cX7_isTable 5 = .ok (.aload_n 0, 1) := by decide +kernel
theorem dX7_isTable_6 : decode cX7_isTable 6 = .ok (.getfield 118, 3) := by decide +kernel
theorem dX7_isTable_9 : decode cX7_isTable 9 = .ok (.if_icmp .ge 7, 3) := by decide +kernel
theorem dX7_isTable_12 : decode cX7_isTable 12 = .ok (.iconst 1, 1) := by decide +kernel
theorem dX7_isTable_13 : decode cX7_isTable 13 = .ok (.goto 4, 3) := by decide +kernel
theorem dX7_isTable_16 : decode cX7_isTable 16 = .ok (.iconst 0, 1) := by decide +kernel
theorem dX7_isTable_17 : decode cX7_isTable 17 = .ok (.ireturn, 1) := by decide +kernel
theorem dX7_in_0 : decode cX7_in 0 = .ok (.lload_n 0, 1) := by decide +kernel
theorem dX7_in_1 : decode cX7_in 1 = .ok (.lload_n 2, 1) := by decide +kernel
theorem dX7_in_2 : decode cX7_in 2 = .ok (.lcmp, 1) := by decide +kernel
theorem dX7_in_3 : decode cX7_in 3 = .ok (.ifCond .lt 14, 3) := by decide +kernel
theorem dX7_in_6 : decode cX7_in 6 = .ok (.lload_n 0, 1) := by decide +kernel
theorem dX7_in_7 : decode cX7_in 7 = .ok (.lload 4, 2) := by decide +kernel
theorem dX7_in_9 : decode cX7_in 9 = .ok (.lcmp, 1) := by decide +kernel
theorem dX7_in_10 : decode cX7_in 10 = .ok (.ifCond .gt 7, 3) := by decide +kernel
theorem dX7_in_13 : decode cX7_in 13 = .ok (.iconst 1, 1) := by decide +kernel
theorem dX7_in_14 : decode cX7_in 14 = .ok (.goto 4, 3) := by decide +kernel
theorem dX7_in_17 : decode cX7_in 17 = .ok (.iconst 0, 1) := by decide +kernel
theorem dX7_in_18 : decode cX7_in 18 = .ok (.ireturn, 1) := by decide +kernel
theorem dX7_table_0 : decode cX7_table 0 = .ok (.aload_n 0, 1) := by decide +kernel
theorem dX7_table_1 : decode cX7_table 1 = .ok (.iconst 0, 1) := by decide +kernel
theorem dX7_table_2 : decode cX7_table 2 = .ok (.putfield 114, 3) := by decide +kernel
theorem dX7_table_5 : decode cX7_table 5 = .ok (.aload_n 0, 1) := by decide +kernel
theorem dX7_table_6 : decode cX7_table 6 = .ok (.getfield 118, 3) := by decide +kernel
theorem dX7_table_9 : decode cX7_table 9 = .ok (.bipush 6, 2) := by decide +kernel
theorem dX7_table_11 : decode cX7_table 11 = .ok (.if_icmp .ne 6, 3) := by decide +kernel
theorem dX7_table_14 : decode cX7_table 14 = .ok (.bipush (-4), 2) := by decide +kernel
theorem dX7_table_16 : decode cX7_table 16 = .ok (.ireturn, 1) := by decide +kernel
theorem dX7_table_17 : decode cX7_table 17 = .ok (.aload_n 0, 1) := by decide +kernel
theorem dX7_table_18 : decode cX7_table 18 = .ok (.getfield 23, 3) := by decide +kernel
theorem dX7_table_21 : decode cX7_table 21 = .ok (.aload_n 0, 1) := by decide +kernel
theorem dX7_table_22 : decode cX7_table 22 = .ok (.getfield 118, 3) := by decide +kernel
theorem dX7_table_25 : decode cX7_table 25 = .ok (.iconst (-1), 1) := by decide +kernel
theorem dX7_table_26 : decode cX7_table 26 = .ok (.iastore, 1) := by decide +kernel
theorem dX7_table_27 : decode cX7_table 27 = .ok (.aload_n 0, 1) := by decide +kernel
theorem dX7_table_28 : decode cX7_table 28 = .ok (.getfield 102, 3) := by decide +kernel
theorem dX7_table_31 : decode cX7_table 31 = .ok (.aload_n 0, 1) := by decide +kernel
theorem dX7_table_32 : decode cX7_table 32 = .ok (.getfield 118, 3) := by decide +kernel
theorem dX7_table_35 : decode cX7_table 35 = .ok (.iconst (-1), 1) := by decide +kernel
theorem dX7_table_36 : decode cX7_table 36 = .ok (.iastore, 1) := by decide +kernel
theorem dX7_table_37 : decode cX7_table 37 = .ok (.aload_n 0, 1) := by decide +kernel
theorem dX7_table_38 : decode cX7_table 38 = .ok (.dup, 1) := by decide +kernel
theorem dX7_table_39 : decode cX7_table 39 = .ok (.getfield 118, 3) := by decide +kernel
theorem dX7_table_42 : decode cX7_table 42 = .ok (.iconst 1, 1) := by decide +kernel
theorem dX7_table_43 : decode cX7_table 43 = .ok (.iadd, 1) := by decide +kernel
theorem dX7_table_44 : decode cX7_table 44 = .ok (.putfield 118, 3) := by decide +kernel
theorem dX7_table_47 : decode cX7_table 47 = .ok (.aload_n 0, 1) := by decide +kernel
theorem dX7_table_48 : decode cX7_table 48 = .ok (.getfield 118, 3) := by decide +kernel
theorem dX7_table_51 : decode cX7_table 51 = .ok (.iconst 1, 1) := by decide +kernel
theorem dX7_table_52 : decode cX7_table 52 = .ok (.isub, 1) := by decide +kernel
theorem dX7_table_53 : decode cX7_table 53 = .ok (.ireturn, 1) := by decide +kernel
theorem dX7_isLetter_0 : decode cX7_isLetter 0 = .ok (.iload_n 0, 1) := by decide +kernel
theorem dX7_isLetter_1 : decode cX7_isLetter 1 = .ok (.bipush 97, 2) := by decide +kernel
theorem dX7_isLetter_3 : decode cX7_isLetter 3 = .ok (.if_icmp .lt 13, 3) := by decide +kernel
theorem dX7_isLetter_6 : decode cX7_isLetter 6 = .ok (.iload_n 0, 1) := by decide +kernel
theorem dX7_isLetter_7 : decode cX7_isLetter 7 = .ok (.bipush 122, 2) := by decide +kernel
theorem dX7_isLetter_9 : decode cX7_isLetter 9 = .ok (.if_icmp .gt 7, 3) := by decide +kernel
theorem dX7_isLetter_12 : decode cX7_isLetter 12 = .ok (.iconst 1, 1) := by decide +kernel
theorem dX7_isLetter_13 : decode cX7_isLetter 13 = .ok (.goto 4, 3) := by decide +kernel
theorem dX7_isLetter_16 : decode cX7_isLetter 16 = .ok (.iconst 0, 1) := by decide +kernel
theorem dX7_isLetter_17 : decode cX7_isLetter 17 = .ok (.ireturn, 1) := by decide +kernel
theorem dX7_byteOf_0 : decode cX7_byteOf 0 = .ok (.iload_n 3, 1) := by decide +kernel
theorem dX7_byteOf_1 : decode cX7_byteOf 1 = .ok (.iconst 4, 1) := by decide +kernel
theorem dX7_byteOf_2 : decode cX7_byteOf 2 = .ok (.if_icmp .ge 7, 3) := by decide +kernel
theorem dX7_byteOf_5 : decode cX7_byteOf 5 = .ok (.iload_n 0, 1) := by decide +kernel
theorem dX7_byteOf_6 : decode cX7_byteOf 6 = .ok (.goto 14, 3) := by decide +kernel
theorem dX7_byteOf_9 : decode cX7_byteOf 9 = .ok (.iload_n 3, 1) := by decide +kernel
theorem dX7_byteOf_10 : decode cX7_byteOf 10 = .ok (.bipush 8, 2) := by decide +kernel
theorem dX7_byteOf_12 : decode cX7_byteOf 12 = .ok (.if_icmp .ge 7, 3) := by decide +kernel
theorem dX7_byteOf_15 : decode cX7_byteOf 15 = .ok (.iload_n 1, 1) := by decide +kernel
theorem dX7_byteOf_16 : decode cX7_byteOf 16 = .ok (.goto 4, 3) := by decide +kernel
theorem dX7_byteOf_19 : decode cX7_byteOf 19 = .ok (.iload_n 2, 1) := by decide +kernel
theorem dX7_byteOf_20 : decode cX7_byteOf 20 = .ok (.istore 4, 2) := by decide +kernel
theorem dX7_byteOf_22 : decode cX7_byteOf 22 = .ok (.iload 4, 2) := by decide +kernel
theorem dX7_byteOf_24 : decode cX7_byteOf 24 = .ok (.bipush 24, 2) := by decide +kernel
theorem dX7_byteOf_26 : decode cX7_byteOf 26 = .ok (.bipush 8, 2) := by decide +kernel
theorem dX7_byteOf_28 : decode cX7_byteOf 28 = .ok (.iload_n 3, 1) := by decide +kernel
theorem dX7_byteOf_29 : decode cX7_byteOf 29 = .ok (.iconst 4, 1) := by decide +kernel
theorem dX7_byteOf_30 : decode cX7_byteOf 30 = .ok (.irem, 1) := by decide +kernel
theorem dX7_byteOf_31 : decode cX7_byteOf 31 = .ok (.imul, 1) := by decide +kernel
theorem dX7_byteOf_32 : decode cX7_byteOf 32 = .ok (.isub, 1) := by decide +kernel
theorem dX7_byteOf_33 : decode cX7_byteOf 33 = .ok (.ishr, 1) := by decide +kernel
theorem dX7_byteOf_34 : decode cX7_byteOf 34 = .ok (.sipush 255, 3) := by decide +kernel
theorem dX7_byteOf_37 : decode cX7_byteOf 37 = .ok (.iand, 1) := by decide +kernel
theorem dX7_byteOf_38 : decode cX7_byteOf 38 = .ok (.ireturn, 1) := by decide +kernel
theorem dX7_type_0 : decode cX7_type 0 = .ok (.aload_n 0, 1) := by decide +kernel
theorem dX7_type_1 : decode cX7_type 1 = .ok (.iconst 0, 1) := by decide +kernel
theorem dX7_type_2 : decode cX7_type 2 = .ok (.putfield 114, 3) := by decide +kernel
theorem dX7_type_5 : decode cX7_type 5 = .ok (.aload_n 0, 1) := by decide +kernel
theorem dX7_type_6 : decode cX7_type 6 = .ok (.iload_n 1, 1) := by decide +kernel
theorem dX7_type_7 : decode cX7_type 7 = .ok (.invokevirtual 121, 3) := by decide +kernel
theorem dX7_type_10 : decode cX7_type 10 = .ok (.ifCond .ne 5, 3) := by decide +kernel
theorem dX7_type_13 : decode cX7_type 13 = .ok (.iconst (-1), 1) := by decide +kernel
theorem dX7_type_14 : decode cX7_type 14 = .ok (.ireturn, 1) := by decide +kernel
theorem dX7_type_15 : decode cX7_type 15 = .ok (.iconst 0, 1) := by decide +kernel
theorem dX7_type_16 : decode cX7_type 16 = .ok (.istore 5, 2) := by decide +kernel
theorem dX7_type_18 : decode cX7_type 18 = .ok (.iconst 1, 1) := by decide +kernel
theorem dX7_type_19 : decode cX7_type 19 = .ok (.istore 6, 2) := by decide +kernel
theorem dX7_type_21 : decode cX7_type 21 = .ok (.iconst 0, 1) := by decide +kernel
theorem dX7_type_22 : decode cX7_type 22 = .ok (.istore 7, 2) := by decide +kernel
theorem dX7_type_24 : decode cX7_type 24 = .ok (.iload 7, 2) := by decide +kernel
theorem dX7_type_26 : decode cX7_type 26 = .ok (.bipush 12, 2) := by decide +kernel
theorem dX7_type_28 : decode cX7_type 28 = .ok (.if_icmp .ge 75, 3) := by decide +kernel
theorem dX7_type_31 : decode cX7_type 31 = .ok (.iload_n 2, 1) := by decide +kernel
theorem dX7_type_32 : decode cX7_type 32 = .ok (.iload_n 3, 1) := by decide +kernel
theorem dX7_type_33 : decode cX7_type 33 = .ok (.iload 4, 2) := by decide +kernel
theorem dX7_type_35 : decode cX7_type 35 = .ok (.iload 7, 2) := by decide +kernel
theorem dX7_type_37 : decode cX7_type 37 = .ok (.invokestatic 125, 3) := by decide +kernel
theorem dX7_type_40 : decode cX7_type 40 = .ok (.istore 8, 2) := by decide +kernel
theorem dX7_type_42 : decode cX7_type 42 = .ok (.iload 8, 2) := by decide +kernel
theorem dX7_type_44 : decode cX7_type 44 = .ok (.ifCond .eq 10, 3) := by decide +kernel
theorem dX7_type_47 : decode cX7_type 47 = .ok (.iload 5, 2) := by decide +kernel
theorem dX7_type_49 : decode cX7_type 49 = .ok (.iconst 1, 1) := by decide +kernel
theorem dX7_type_50 : decode cX7_type 50 = .ok (.iadd, 1) := by decide +kernel
theorem dX7_type_51 : decode cX7_type 51 = .ok (.goto 5, 3) := by decide +kernel
theorem dX7_type_54 : decode cX7_type 54 = .ok (.iload 5, 2) := by decide +kernel
theorem dX7_type_56 : decode cX7_type 56 = .ok (.istore 5, 2) := by decide +kernel
theorem dX7_type_58 : decode cX7_type 58 = .ok (.iload 6, 2) := by decide +kernel
theorem dX7_type_60 : decode cX7_type 60 = .ok (.ifCond .eq 34, 3) := by decide +kernel
theorem dX7_type_63 : decode cX7_type 63 = .ok (.iload 8, 2) := by decide +kernel
theorem dX7_type_65 : decode cX7_type 65 = .ok (.ifCond .eq 25, 3) := by decide +kernel
theorem dX7_type_68 : decode cX7_type 68 = .ok (.iload 8, 2) := by decide +kernel
theorem dX7_type_70 : decode cX7_type 70 = .ok (.invokestatic 129, 3) := by decide +kernel
theorem dX7_type_73 : decode cX7_type 73 = .ok (.ifCond .ne 17, 3) := by decide +kernel
theorem dX7_type_76 : decode cX7_type 76 = .ok (.iload 8, 2) := by decide +kernel
theorem dX7_type_78 : decode cX7_type 78 = .ok (.bipush 35, 2) := by decide +kernel
theorem dX7_type_80 : decode cX7_type 80 = .ok (.if_icmp .eq 10, 3) := by decide +kernel
theorem dX7_type_83 : decode cX7_type 83 = .ok (.iload 8, 2) := by decide +kernel
theorem dX7_type_85 : decode cX7_type 85 = .ok (.bipush 38, 2) := by decide +kernel
theorem dX7_type_87 : decode cX7_type 87 = .ok (.if_icmp .ne 7, 3) := by decide +kernel
theorem dX7_type_90 : decode cX7_type 90 = .ok (.iconst 1, 1) := by decide +kernel
theorem dX7_type_91 : decode cX7_type 91 = .ok (.goto 4, 3) := by decide +kernel
theorem dX7_type_94 : decode cX7_type 94 = .ok (.iconst 0, 1) := by decide +kernel
theorem dX7_type_95 : decode cX7_type 95 = .ok (.istore 6, 2) := by decide +kernel
theorem dX7_type_97 : decode cX7_type 97 = .ok (.iinc 7 1, 3) := by decide +kernel
theorem dX7_type_100 : decode cX7_type 100 = .ok (.goto (-76), 3) := by decide +kernel
theorem dX7_type_103 : decode cX7_type 103 = .ok (.iload 6, 2) := by decide +kernel
theorem dX7_type_105 : decode cX7_type 105 = .ok (.ifCond .ne 6, 3) := by decide +kernel
theorem dX7_type_108 : decode cX7_type 108 = .ok (.bipush (-2), 2) := by decide +kernel
theorem dX7_type_110 : decode cX7_type 110 = .ok (.ireturn, 1) := by decide +kernel
theorem dX7_type_111 : decode cX7_type 111 = .ok (.aload_n 0, 1) := by decide +kernel
theorem dX7_type_112 : decode cX7_type 112 = .ok (.getfield 16, 3) := by decide +kernel
theorem dX7_type_115 : decode cX7_type 115 = .ok (.iload_n 1, 1) := by decide +kernel
theorem dX7_type_116 : decode cX7_type 116 = .ok (.baload, 1) := by decide +kernel
theorem dX7_type_117 : decode cX7_type 117 = .ok (.ifCond .eq 6, 3) := by decide +kernel
theorem dX7_type_120 : decode cX7_type 120 = .ok (.bipush (-3), 2) := by decide +kernel
theorem dX7_type_122 : decode cX7_type 122 = .ok (.ireturn, 1) := by decide +kernel
theorem dX7_type_123 : decode cX7_type 123 = .ok (.aload_n 0, 1) := by decide +kernel
theorem dX7_type_124 : decode cX7_type 124 = .ok (.getfield 13, 3) := by decide +kernel
theorem dX7_type_127 : decode cX7_type 127 = .ok (.iload_n 1, 1) := by decide +kernel
theorem dX7_type_128 : decode cX7_type 128 = .ok (.iaload, 1) := by decide +kernel
theorem dX7_type_129 : decode cX7_type 129 = .ok (.iload 5, 2) := by decide +kernel
theorem dX7_type_131 : decode cX7_type 131 = .ok (.iadd, 1) := by decide +kernel
theorem dX7_type_132 : decode cX7_type 132 = .ok (.bipush 40, 2) := by decide +kernel
theorem dX7_type_134 : decode cX7_type 134 = .ok (.if_icmp .le 6, 3) := by decide +kernel
theorem dX7_type_137 : decode cX7_type 137 = .ok (.bipush (-4), 2) := by decide +kernel
theorem dX7_type_139 : decode cX7_type 139 = .ok (.ireturn, 1) := by decide +kernel
theorem dX7_type_140 : decode cX7_type 140 = .ok (.iconst 0, 1) := by decide +kernel
theorem dX7_type_141 : decode cX7_type 141 = .ok (.istore 7, 2) := by decide +kernel
theorem dX7_type_143 : decode cX7_type 143 = .ok (.iload 7, 2) := by decide +kernel
theorem dX7_type_145 : decode cX7_type 145 = .ok (.bipush 12, 2) := by decide +kernel
theorem dX7_type_147 : decode cX7_type 147 = .ok (.if_icmp .ge 53, 3) := by decide +kernel
theorem dX7_type_150 : decode cX7_type 150 = .ok (.iload_n 2, 1) := by decide +kernel
theorem dX7_type_151 : decode cX7_type 151 = .ok (.iload_n 3, 1) := by decide +kernel
theorem dX7_type_152 : decode cX7_type 152 = .ok (.iload 4, 2) := by decide +kernel
theorem dX7_type_154 : decode cX7_type 154 = .ok (.iload 7, 2) := by decide +kernel
theorem dX7_type_156 : decode cX7_type 156 = .ok (.invokestatic 125, 3) := by decide +kernel
theorem dX7_type_159 : decode cX7_type 159 = .ok (.istore 8, 2) := by decide +kernel
theorem dX7_type_161 : decode cX7_type 161 = .ok (.iload 8, 2) := by decide +kernel
theorem dX7_type_163 : decode cX7_type 163 = .ok (.ifCond .eq 31, 3) := by decide +kernel
theorem dX7_type_166 : decode cX7_type 166 = .ok (.aload_n 0, 1) := by decide +kernel
theorem dX7_type_167 : decode cX7_type 167 = .ok (.getfield 7, 3) := by decide +kernel
theorem dX7_type_170 : decode cX7_type 170 = .ok (.bipush 40, 2) := by decide +kernel
theorem dX7_type_172 : decode cX7_type 172 = .ok (.iload_n 1, 1) := by decide +kernel
theorem dX7_type_173 : decode cX7_type 173 = .ok (.imul, 1) := by decide +kernel
theorem dX7_type_174 : decode cX7_type 174 = .ok (.aload_n 0, 1) := by decide +kernel
theorem dX7_type_175 : decode cX7_type 175 = .ok (.getfield 13, 3) := by decide +kernel
theorem dX7_type_178 : decode cX7_type 178 = .ok (.iload_n 1, 1) := by decide +kernel
theorem dX7_type_179 : decode cX7_type 179 = .ok (.iaload, 1) := by decide +kernel
theorem dX7_type_180 : decode cX7_type 180 = .ok (.iadd, 1) := by decide +kernel
theorem dX7_type_181 : decode cX7_type 181 = .ok (.iload 8, 2) := by decide +kernel
theorem dX7_type_183 : decode cX7_type 183 = .ok (.iastore, 1) := by decide +kernel
theorem dX7_type_184 : decode cX7_type 184 = .ok (.aload_n 0, 1) := by decide +kernel
theorem dX7_type_185 : decode cX7_type 185 = .ok (.getfield 13, 3) := by decide +kernel
theorem dX7_type_188 : decode cX7_type 188 = .ok (.iload_n 1, 1) := by decide +kernel
theorem dX7_type_189 : decode cX7_type 189 = .ok (.dup2, 1) := by decide +kernel
theorem dX7_type_190 : decode cX7_type 190 = .ok (.iaload, 1) := by decide +kernel
theorem dX7_type_191 : decode cX7_type 191 = .ok (.iconst 1, 1) := by decide +kernel
theorem dX7_type_192 : decode cX7_type 192 = .ok (.iadd, 1) := by decide +kernel
theorem dX7_type_193 : decode cX7_type 193 = .ok (.iastore, 1) := by decide +kernel
theorem dX7_type_194 : decode cX7_type 194 = .ok (.iinc 7 1, 3) := by decide +kernel
theorem dX7_type_197 : decode cX7_type 197 = .ok (.goto (-54), 3) := by decide +kernel
theorem dX7_type_200 : decode cX7_type 200 = .ok (.aload_n 0, 1) := by decide +kernel
theorem dX7_type_201 : decode cX7_type 201 = .ok (.getfield 13, 3) := by decide +kernel
theorem dX7_type_204 : decode cX7_type 204 = .ok (.iload_n 1, 1) := by decide +kernel
theorem dX7_type_205 : decode cX7_type 205 = .ok (.iaload, 1) := by decide +kernel
theorem dX7_type_206 : decode cX7_type 206 = .ok (.ireturn, 1) := by decide +kernel
theorem dX7_sign_0 : decode cX7_sign 0 = .ok (.aload_n 0, 1) := by decide +kernel
theorem dX7_sign_1 : decode cX7_sign 1 = .ok (.getfield 132, 3) := by decide +kernel
theorem dX7_sign_4 : decode cX7_sign 4 = .ok (.aload_n 0, 1) := by decide +kernel
theorem dX7_sign_5 : decode cX7_sign 5 = .ok (.getfield 13, 3) := by decide +kernel
theorem dX7_sign_8 : decode cX7_sign 8 = .ok (.iload_n 1, 1) := by decide +kernel
theorem dX7_sign_9 : decode cX7_sign 9 = .ok (.iaload, 1) := by decide +kernel
theorem dX7_sign_10 : decode cX7_sign 10 = .ok (.if_icmp .ge 20, 3) := by decide +kernel
theorem dX7_sign_13 : decode cX7_sign 13 = .ok (.aload_n 0, 1) := by decide +kernel
theorem dX7_sign_14 : decode cX7_sign 14 = .ok (.getfield 7, 3) := by decide +kernel
theorem dX7_sign_17 : decode cX7_sign 17 = .ok (.bipush 40, 2) := by decide +kernel
theorem dX7_sign_19 : decode cX7_sign 19 = .ok (.iload_n 1, 1) := by decide +kernel
theorem dX7_sign_20 : decode cX7_sign 20 = .ok (.imul, 1) := by decide +kernel
theorem dX7_sign_21 : decode cX7_sign 21 = .ok (.aload_n 0, 1) := by decide +kernel
theorem dX7_sign_22 : decode cX7_sign 22 = .ok (.getfield 132, 3) := by decide +kernel
theorem dX7_sign_25 : decode cX7_sign 25 = .ok (.iadd, 1) := by decide +kernel
theorem dX7_sign_26 : decode cX7_sign 26 = .ok (.iaload, 1) := by decide +kernel
theorem dX7_sign_27 : decode cX7_sign 27 = .ok (.goto 4, 3) := by decide +kernel
theorem dX7_sign_30 : decode cX7_sign 30 = .ok (.iconst 0, 1) := by decide +kernel
theorem dX7_sign_31 : decode cX7_sign 31 = .ok (.ireturn, 1) := by decide +kernel
theorem dX7_passLetters_0 : decode cX7_passLetters 0 = .ok (.iconst 0, 1) := by decide +kernel
theorem dX7_passLetters_1 : decode cX7_passLetters 1 = .ok (.istore_n 2, 1) := by decide +kernel
theorem dX7_passLetters_2 : decode cX7_passLetters 2 = .ok (.aload_n 0, 1) := by decide +kernel
theorem dX7_passLetters_3 : decode cX7_passLetters 3 = .ok (.iload_n 1, 1) := by decide +kernel
theorem dX7_passLetters_4 : decode cX7_passLetters 4 = .ok (.invokevirtual 135, 3) := by decide +kernel
theorem dX7_passLetters_7 : decode cX7_passLetters 7 = .ok (.invokestatic 129, 3) := by decide +kernel
theorem dX7_passLetters_10 : decode cX7_passLetters 10 = .ok (.ifCond .eq 29, 3) := by decide +kernel
theorem dX7_passLetters_13 : decode cX7_passLetters 13 = .ok (.iload_n 2, 1) := by decide +kernel
theorem dX7_passLetters_14 : decode cX7_passLetters 14 = .ok (.aload_n 0, 1) := by decide +kernel
theorem dX7_passLetters_15 : decode cX7_passLetters 15 = .ok (.iload_n 1, 1) := by decide +kernel
theorem dX7_passLetters_16 : decode cX7_passLetters 16 = .ok (.invokevirtual 135, 3) := by decide +kernel
theorem dX7_passLetters_19 : decode cX7_passLetters 19 = .ok (.iadd, 1) := by decide +kernel
theorem dX7_passLetters_20 : decode cX7_passLetters 20 = .ok (.bipush 97, 2) := by decide +kernel
theorem dX7_passLetters_22 : decode cX7_passLetters 22 = .ok (.isub, 1) := by decide +kernel
theorem dX7_passLetters_23 : decode cX7_passLetters 23 = .ok (.iconst 1, 1) := by decide +kernel
theorem dX7_passLetters_24 : decode cX7_passLetters 24 = .ok (.iadd, 1) := by decide +kernel
theorem dX7_passLetters_25 : decode cX7_passLetters 25 = .ok (.istore_n 2, 1) := by decide +kernel
theorem dX7_passLetters_26 : decode cX7_passLetters 26 = .ok (.aload_n 0, 1) := by decide +kernel
theorem dX7_passLetters_27 : decode cX7_passLetters 27 = .ok (.dup, 1) := by decide +kernel
theorem dX7_passLetters_28 : decode cX7_passLetters 28 = .ok (.getfield 132, 3) := by decide +kernel
theorem dX7_passLetters_31 : decode cX7_passLetters 31 = .ok (.iconst 1, 1) := by decide +kernel
theorem dX7_passLetters_32 : decode cX7_passLetters 32 = .ok (.iadd, 1) := by decide +kernel
theorem dX7_passLetters_33 : decode cX7_passLetters 33 = .ok (.putfield 132, 3) := by decide +kernel
theorem dX7_passLetters_36 : decode cX7_passLetters 36 = .ok (.goto (-34), 3) := by decide +kernel
theorem dX7_passLetters_39 : decode cX7_passLetters 39 = .ok (.iload_n 2, 1) := by decide +kernel
theorem dX7_passLetters_40 : decode cX7_passLetters 40 = .ok (.ireturn, 1) := by decide +kernel
theorem dX7_readAll_0 : decode cX7_readAll 0 = .ok (.aload_n 0, 1) := by decide +kernel
theorem dX7_readAll_1 : decode cX7_readAll 1 = .ok (.iconst 0, 1) := by decide +kernel
theorem dX7_readAll_2 : decode cX7_readAll 2 = .ok (.putfield 132, 3) := by decide +kernel
theorem dX7_readAll_5 : decode cX7_readAll 5 = .ok (.aload_n 0, 1) := by decide +kernel
theorem dX7_readAll_6 : decode cX7_readAll 6 = .ok (.iconst (-1), 1) := by decide +kernel
theorem dX7_readAll_7 : decode cX7_readAll 7 = .ok (.putfield 139, 3) := by decide +kernel
theorem dX7_readAll_10 : decode cX7_readAll 10 = .ok (.iconst 0, 1) := by decide +kernel
theorem dX7_readAll_11 : decode cX7_readAll 11 = .ok (.istore_n 2, 1) := by decide +kernel
theorem dX7_readAll_12 : decode cX7_readAll 12 = .ok (.iconst (-1), 1) := by decide +kernel
theorem dX7_readAll_13 : decode cX7_readAll 13 = .ok (.istore_n 3, 1) := by decide +kernel
theorem dX7_readAll_14 : decode cX7_readAll 14 = .ok (.aload_n 0, 1) := by decide +kernel
theorem dX7_readAll_15 : decode cX7_readAll 15 = .ok (.iload_n 1, 1) := by decide +kernel
theorem dX7_readAll_16 : decode cX7_readAll 16 = .ok (.invokevirtual 135, 3) := by decide +kernel
theorem dX7_readAll_19 : decode cX7_readAll 19 = .ok (.bipush 38, 2) := by decide +kernel
theorem dX7_readAll_21 : decode cX7_readAll 21 = .ok (.if_icmp .ne 15, 3) := by decide +kernel
theorem dX7_readAll_24 : decode cX7_readAll 24 = .ok (.iconst 0, 1) := by decide +kernel
theorem dX7_readAll_25 : decode cX7_readAll 25 = .ok (.istore_n 3, 1) := by decide +kernel
theorem dX7_readAll_26 : decode cX7_readAll 26 = .ok (.aload_n 0, 1) := by decide +kernel
theorem dX7_readAll_27 : decode cX7_readAll 27 = .ok (.dup, 1) := by decide +kernel
theorem dX7_readAll_28 : decode cX7_readAll 28 = .ok (.getfield 132, 3) := by decide +kernel
theorem dX7_readAll_31 : decode cX7_readAll 31 = .ok (.iconst 1, 1) := by decide +kernel
theorem dX7_readAll_32 : decode cX7_readAll 32 = .ok (.iadd, 1) := by decide +kernel
theorem dX7_readAll_33 : decode cX7_readAll 33 = .ok (.putfield 132, 3) := by decide +kernel
theorem dX7_readAll_36 : decode cX7_readAll 36 = .ok (.iconst 1, 1) := by decide +kernel
theorem dX7_readAll_37 : decode cX7_readAll 37 = .ok (.istore 4, 2) := by decide +kernel
theorem dX7_readAll_39 : decode cX7_readAll 39 = .ok (.iload 4, 2) := by decide +kernel
theorem dX7_readAll_41 : decode cX7_readAll 41 = .ok (.ifCond .eq 191, 3) := by decide +kernel
theorem dX7_readAll_44 : decode cX7_readAll 44 = .ok (.aload_n 0, 1) := by decide +kernel
theorem dX7_readAll_45 : decode cX7_readAll 45 = .ok (.iload_n 1, 1) := by decide +kernel
theorem dX7_readAll_46 : decode cX7_readAll 46 = .ok (.invokevirtual 142, 3) := by decide +kernel
theorem dX7_readAll_49 : decode cX7_readAll 49 = .ok (.istore 5, 2) := by decide +kernel
theorem dX7_readAll_51 : decode cX7_readAll 51 = .ok (.aload_n 0, 1) := by decide +kernel
theorem dX7_readAll_52 : decode cX7_readAll 52 = .ok (.iload_n 1, 1) := by decide +kernel
theorem dX7_readAll_53 : decode cX7_readAll 53 = .ok (.invokevirtual 135, 3) := by decide +kernel
theorem dX7_readAll_56 : decode cX7_readAll 56 = .ok (.bipush 35, 2) := by decide +kernel
theorem dX7_readAll_58 : decode cX7_readAll 58 = .ok (.if_icmp .eq 12, 3) := by decide +kernel
theorem dX7_readAll_61 : decode cX7_readAll 61 = .ok (.aload_n 0, 1) := by decide +kernel
theorem dX7_readAll_62 : decode cX7_readAll 62 = .ok (.aload_n 0, 1) := by decide +kernel
theorem dX7_readAll_63 : decode cX7_readAll 63 = .ok (.getfield 132, 3) := by decide +kernel
theorem dX7_readAll_66 : decode cX7_readAll 66 = .ok (.putfield 139, 3) := by decide +kernel
theorem dX7_readAll_69 : decode cX7_readAll 69 = .ok (.return_, 1) := by decide +kernel
theorem dX7_readAll_70 : decode cX7_readAll 70 = .ok (.aload_n 0, 1) := by decide +kernel
theorem dX7_readAll_71 : decode cX7_readAll 71 = .ok (.dup, 1) := by decide +kernel
theorem dX7_readAll_72 : decode cX7_readAll 72 = .ok (.getfield 132, 3) := by decide +kernel
theorem dX7_readAll_75 : decode cX7_readAll 75 = .ok (.iconst 1, 1) := by decide +kernel
theorem dX7_readAll_76 : decode cX7_readAll 76 = .ok (.iadd, 1) := by decide +kernel
theorem dX7_readAll_77 : decode cX7_readAll 77 = .ok (.putfield 132, 3) := by decide +kernel
theorem dX7_readAll_80 : decode cX7_readAll 80 = .ok (.aload_n 0, 1) := by decide +kernel
theorem dX7_readAll_81 : decode cX7_readAll 81 = .ok (.getfield 26, 3) := by decide +kernel
theorem dX7_readAll_84 : decode cX7_readAll 84 = .ok (.bipush 12, 2) := by decide +kernel
theorem dX7_readAll_86 : decode cX7_readAll 86 = .ok (.iload_n 1, 1) := by decide +kernel
theorem dX7_readAll_87 : decode cX7_readAll 87 = .ok (.imul, 1) := by decide +kernel
theorem dX7_readAll_88 : decode cX7_readAll 88 = .ok (.iload_n 2, 1) := by decide +kernel
theorem dX7_readAll_89 : decode cX7_readAll 89 = .ok (.iadd, 1) := by decide +kernel
theorem dX7_readAll_90 : decode cX7_readAll 90 = .ok (.iload 5, 2) := by decide +kernel
theorem dX7_readAll_92 : decode cX7_readAll 92 = .ok (.iastore, 1) := by decide +kernel
theorem dX7_readAll_93 : decode cX7_readAll 93 = .ok (.aload_n 0, 1) := by decide +kernel
theorem dX7_readAll_94 : decode cX7_readAll 94 = .ok (.getfield 29, 3) := by decide +kernel
theorem dX7_readAll_97 : decode cX7_readAll 97 = .ok (.bipush 12, 2) := by decide +kernel
theorem dX7_readAll_99 : decode cX7_readAll 99 = .ok (.iload_n 1, 1) := by decide +kernel
theorem dX7_readAll_100 : decode cX7_readAll 100 = .ok (.imul, 1) := by decide +kernel
theorem dX7_readAll_101 : decode cX7_readAll 101 = .ok (.iload_n 2, 1) := by decide +kernel
theorem dX7_readAll_102 : decode cX7_readAll 102 = .ok (.iadd, 1) := by decide +kernel
theorem dX7_readAll_103 : decode cX7_readAll 103 = .ok (.aload_n 0, 1) := by decide +kernel
theorem dX7_readAll_104 : decode cX7_readAll 104 = .ok (.iload_n 1, 1) := by decide +kernel
theorem dX7_readAll_105 : decode cX7_readAll 105 = .ok (.invokevirtual 142, 3) := by decide +kernel
theorem dX7_readAll_108 : decode cX7_readAll 108 = .ok (.iastore, 1) := by decide +kernel
theorem dX7_readAll_109 : decode cX7_readAll 109 = .ok (.iinc 2 1, 3) := by decide +kernel
theorem dX7_readAll_112 : decode cX7_readAll 112 = .ok (.aload_n 0, 1) := by decide +kernel
theorem dX7_readAll_113 : decode cX7_readAll 113 = .ok (.iload_n 1, 1) := by decide +kernel
theorem dX7_readAll_114 : decode cX7_readAll 114 = .ok (.invokevirtual 135, 3) := by decide +kernel
theorem dX7_readAll_117 : decode cX7_readAll 117 = .ok (.bipush 38, 2) := by decide +kernel
theorem dX7_readAll_119 : decode cX7_readAll 119 = .ok (.if_icmp .ne 7, 3) := by decide +kernel
theorem dX7_readAll_122 : decode cX7_readAll 122 = .ok (.iconst 1, 1) := by decide +kernel
theorem dX7_readAll_123 : decode cX7_readAll 123 = .ok (.goto 4, 3) := by decide +kernel
theorem dX7_readAll_126 : decode cX7_readAll 126 = .ok (.iconst 0, 1) := by decide +kernel
theorem dX7_readAll_127 : decode cX7_readAll 127 = .ok (.istore 4, 2) := by decide +kernel
theorem dX7_readAll_129 : decode cX7_readAll 129 = .ok (.iload 4, 2) := by decide +kernel
theorem dX7_readAll_131 : decode cX7_readAll 131 = .ok (.ifCond .ne 16, 3) := by decide +kernel
theorem dX7_readAll_134 : decode cX7_readAll 134 = .ok (.aload_n 0, 1) := by decide +kernel
theorem dX7_readAll_135 : decode cX7_readAll 135 = .ok (.getfield 132, 3) := by decide +kernel
theorem dX7_readAll_138 : decode cX7_readAll 138 = .ok (.aload_n 0, 1) := by decide +kernel
theorem dX7_readAll_139 : decode cX7_readAll 139 = .ok (.getfield 13, 3) := by decide +kernel
theorem dX7_readAll_142 : decode cX7_readAll 142 = .ok (.iload_n 1, 1) := by decide +kernel
theorem dX7_readAll_143 : decode cX7_readAll 143 = .ok (.iaload, 1) := by decide +kernel
theorem dX7_readAll_144 : decode cX7_readAll 144 = .ok (.if_icmp .lt 14, 3) := by decide +kernel
theorem dX7_readAll_147 : decode cX7_readAll 147 = .ok (.iload 4, 2) := by decide +kernel
theorem dX7_readAll_149 : decode cX7_readAll 149 = .ok (.ifCond .eq 18, 3) := by decide +kernel
theorem dX7_readAll_152 : decode cX7_readAll 152 = .ok (.iload_n 2, 1) := by decide +kernel
theorem dX7_readAll_153 : decode cX7_readAll 153 = .ok (.bipush 12, 2) := by decide +kernel
theorem dX7_readAll_155 : decode cX7_readAll 155 = .ok (.if_icmp .ne 12, 3) := by decide +kernel
theorem dX7_readAll_158 : decode cX7_readAll 158 = .ok (.aload_n 0, 1) := by decide +kernel
theorem dX7_readAll_159 : decode cX7_readAll 159 = .ok (.aload_n 0, 1) := by decide +kernel
theorem dX7_readAll_160 : decode cX7_readAll 160 = .ok (.getfield 132, 3) := by decide +kernel
theorem dX7_readAll_163 : decode cX7_readAll 163 = .ok (.putfield 139, 3) := by decide +kernel
theorem dX7_readAll_166 : decode cX7_readAll 166 = .ok (.return_, 1) := by decide +kernel
theorem dX7_readAll_167 : decode cX7_readAll 167 = .ok (.aload_n 0, 1) := by decide +kernel
theorem dX7_readAll_168 : decode cX7_readAll 168 = .ok (.iload 4, 2) := by decide +kernel
theorem dX7_readAll_170 : decode cX7_readAll 170 = .ok (.ifCond .eq 12, 3) := by decide +kernel
theorem dX7_readAll_173 : decode cX7_readAll 173 = .ok (.aload_n 0, 1) := by decide +kernel
theorem dX7_readAll_174 : decode cX7_readAll 174 = .ok (.getfield 132, 3) := by decide +kernel
theorem dX7_readAll_177 : decode cX7_readAll 177 = .ok (.iconst 1, 1) := by decide +kernel
theorem dX7_readAll_178 : decode cX7_readAll 178 = .ok (.iadd, 1) := by decide +kernel
theorem dX7_readAll_179 : decode cX7_readAll 179 = .ok (.goto 7, 3) := by decide +kernel
theorem dX7_readAll_182 : decode cX7_readAll 182 = .ok (.aload_n 0, 1) := by decide +kernel
theorem dX7_readAll_183 : decode cX7_readAll 183 = .ok (.getfield 132, 3) := by decide +kernel
theorem dX7_readAll_186 : decode cX7_readAll 186 = .ok (.putfield 132, 3) := by decide +kernel
theorem dX7_readAll_189 : decode cX7_readAll 189 = .ok (.iload 4, 2) := by decide +kernel
theorem dX7_readAll_191 : decode cX7_readAll 191 = .ok (.ifCond .eq 38, 3) := by decide +kernel
theorem dX7_readAll_194 : decode cX7_readAll 194 = .ok (.aload_n 0, 1) := by decide +kernel
theorem dX7_readAll_195 : decode cX7_readAll 195 = .ok (.iload_n 1, 1) := by decide +kernel
theorem dX7_readAll_196 : decode cX7_readAll 196 = .ok (.invokevirtual 135, 3) := by decide +kernel
theorem dX7_readAll_199 : decode cX7_readAll 199 = .ok (.bipush 38, 2) := by decide +kernel
theorem dX7_readAll_201 : decode cX7_readAll 201 = .ok (.if_icmp .ne 28, 3) := by decide +kernel
theorem dX7_readAll_204 : decode cX7_readAll 204 = .ok (.iload_n 3, 1) := by decide +kernel
theorem dX7_readAll_205 : decode cX7_readAll 205 = .ok (.ifCond .lt 12, 3) := by decide +kernel
theorem dX7_readAll_208 : decode cX7_readAll 208 = .ok (.aload_n 0, 1) := by decide +kernel
theorem dX7_readAll_209 : decode cX7_readAll 209 = .ok (.aload_n 0, 1) := by decide +kernel
theorem dX7_readAll_210 : decode cX7_readAll 210 = .ok (.getfield 132, 3) := by decide +kernel
theorem dX7_readAll_213 : decode cX7_readAll 213 = .ok (.putfield 139, 3) := by decide +kernel
theorem dX7_readAll_216 : decode cX7_readAll 216 = .ok (.return_, 1) := by decide +kernel
theorem dX7_readAll_217 : decode cX7_readAll 217 = .ok (.iload_n 2, 1) := by decide +kernel
theorem dX7_readAll_218 : decode cX7_readAll 218 = .ok (.istore_n 3, 1) := by decide +kernel
theorem dX7_readAll_219 : decode cX7_readAll 219 = .ok (.aload_n 0, 1) := by decide +kernel
theorem dX7_readAll_220 : decode cX7_readAll 220 = .ok (.dup, 1) := by decide +kernel
theorem dX7_readAll_221 : decode cX7_readAll 221 = .ok (.getfield 132, 3) := by decide +kernel
theorem dX7_readAll_224 : decode cX7_readAll 224 = .ok (.iconst 1, 1) := by decide +kernel
theorem dX7_readAll_225 : decode cX7_readAll 225 = .ok (.iadd, 1) := by decide +kernel
theorem dX7_readAll_226 : decode cX7_readAll 226 = .ok (.putfield 132, 3) := by decide +kernel
theorem dX7_readAll_229 : decode cX7_readAll 229 = .ok (.goto (-190), 3) := by decide +kernel
theorem dX7_readAll_232 : decode cX7_readAll 232 = .ok (.aload_n 0, 1) := by decide +kernel
theorem dX7_readAll_233 : decode cX7_readAll 233 = .ok (.getfield 20, 3) := by decide +kernel
theorem dX7_readAll_236 : decode cX7_readAll 236 = .ok (.iload_n 1, 1) := by decide +kernel
theorem dX7_readAll_237 : decode cX7_readAll 237 = .ok (.iload_n 2, 1) := by decide +kernel
theorem dX7_readAll_238 : decode cX7_readAll 238 = .ok (.iastore, 1) := by decide +kernel
theorem dX7_readAll_239 : decode cX7_readAll 239 = .ok (.aload_n 0, 1) := by decide +kernel
theorem dX7_readAll_240 : decode cX7_readAll 240 = .ok (.getfield 23, 3) := by decide +kernel
theorem dX7_readAll_243 : decode cX7_readAll 243 = .ok (.iload_n 1, 1) := by decide +kernel
theorem dX7_readAll_244 : decode cX7_readAll 244 = .ok (.iload_n 3, 1) := by decide +kernel
theorem dX7_readAll_245 : decode cX7_readAll 245 = .ok (.iastore, 1) := by decide +kernel
theorem dX7_readAll_246 : decode cX7_readAll 246 = .ok (.return_, 1) := by decide +kernel
theorem dX7_lay_0 : decode cX7_lay 0 = .ok (.aload_n 0, 1) := by decide +kernel
theorem dX7_lay_1 : decode cX7_lay 1 = .ok (.iconst 0, 1) := by decide +kernel
theorem dX7_lay_2 : decode cX7_lay 2 = .ok (.putfield 114, 3) := by decide +kernel
theorem dX7_lay_5 : decode cX7_lay 5 = .ok (.aload_n 0, 1) := by decide +kernel
theorem dX7_lay_6 : decode cX7_lay 6 = .ok (.iload_n 1, 1) := by decide +kernel
theorem dX7_lay_7 : decode cX7_lay 7 = .ok (.invokevirtual 121, 3) := by decide +kernel
theorem dX7_lay_10 : decode cX7_lay 10 = .ok (.ifCond .ne 5, 3) := by decide +kernel
theorem dX7_lay_13 : decode cX7_lay 13 = .ok (.iconst (-1), 1) := by decide +kernel
theorem dX7_lay_14 : decode cX7_lay 14 = .ok (.ireturn, 1) := by decide +kernel
theorem dX7_lay_15 : decode cX7_lay 15 = .ok (.aload_n 0, 1) := by decide +kernel
theorem dX7_lay_16 : decode cX7_lay 16 = .ok (.getfield 16, 3) := by decide +kernel
theorem dX7_lay_19 : decode cX7_lay 19 = .ok (.iload_n 1, 1) := by decide +kernel
theorem dX7_lay_20 : decode cX7_lay 20 = .ok (.baload, 1) := by decide +kernel
theorem dX7_lay_21 : decode cX7_lay 21 = .ok (.ifCond .eq 6, 3) := by decide +kernel
theorem dX7_lay_24 : decode cX7_lay 24 = .ok (.bipush (-3), 2) := by decide +kernel
theorem dX7_lay_26 : decode cX7_lay 26 = .ok (.ireturn, 1) := by decide +kernel
theorem dX7_lay_27 : decode cX7_lay 27 = .ok (.aload_n 0, 1) := by decide +kernel
theorem dX7_lay_28 : decode cX7_lay 28 = .ok (.iload_n 1, 1) := by decide +kernel
theorem dX7_lay_29 : decode cX7_lay 29 = .ok (.invokevirtual 145, 3) := by decide +kernel
theorem dX7_lay_32 : decode cX7_lay 32 = .ok (.aload_n 0, 1) := by decide +kernel
theorem dX7_lay_33 : decode cX7_lay 33 = .ok (.getfield 139, 3) := by decide +kernel
theorem dX7_lay_36 : decode cX7_lay 36 = .ok (.ifCond .lt 18, 3) := by decide +kernel
theorem dX7_lay_39 : decode cX7_lay 39 = .ok (.aload_n 0, 1) := by decide +kernel
theorem dX7_lay_40 : decode cX7_lay 40 = .ok (.getfield 13, 3) := by decide +kernel
theorem dX7_lay_43 : decode cX7_lay 43 = .ok (.iload_n 1, 1) := by decide +kernel
theorem dX7_lay_44 : decode cX7_lay 44 = .ok (.iconst 0, 1) := by decide +kernel
theorem dX7_lay_45 : decode cX7_lay 45 = .ok (.iastore, 1) := by decide +kernel
theorem dX7_lay_46 : decode cX7_lay 46 = .ok (.bipush (-10), 2) := by decide +kernel
theorem dX7_lay_48 : decode cX7_lay 48 = .ok (.aload_n 0, 1) := by decide +kernel
theorem dX7_lay_49 : decode cX7_lay 49 = .ok (.getfield 139, 3) := by decide +kernel
theorem dX7_lay_52 : decode cX7_lay 52 = .ok (.isub, 1) := by decide +kernel
theorem dX7_lay_53 : decode cX7_lay 53 = .ok (.ireturn, 1) := by decide +kernel
theorem dX7_lay_54 : decode cX7_lay 54 = .ok (.aload_n 0, 1) := by decide +kernel
theorem dX7_lay_55 : decode cX7_lay 55 = .ok (.getfield 16, 3) := by decide +kernel
theorem dX7_lay_58 : decode cX7_lay 58 = .ok (.iload_n 1, 1) := by decide +kernel
theorem dX7_lay_59 : decode cX7_lay 59 = .ok (.iconst 1, 1) := by decide +kernel
theorem dX7_lay_60 : decode cX7_lay 60 = .ok (.bastore, 1) := by decide +kernel
theorem dX7_lay_61 : decode cX7_lay 61 = .ok (.aload_n 0, 1) := by decide +kernel
theorem dX7_lay_62 : decode cX7_lay 62 = .ok (.getfield 20, 3) := by decide +kernel
theorem dX7_lay_65 : decode cX7_lay 65 = .ok (.iload_n 1, 1) := by decide +kernel
theorem dX7_lay_66 : decode cX7_lay 66 = .ok (.iaload, 1) := by decide +kernel
theorem dX7_lay_67 : decode cX7_lay 67 = .ok (.ireturn, 1) := by decide +kernel
theorem dX7_columnsOf_0 : decode cX7_columnsOf 0 = .ok (.aload_n 0, 1) := by decide +kernel
theorem dX7_columnsOf_1 : decode cX7_columnsOf 1 = .ok (.getfield 23, 3) := by decide +kernel
theorem dX7_columnsOf_4 : decode cX7_columnsOf 4 = .ok (.iload_n 1, 1) := by decide +kernel
theorem dX7_columnsOf_5 : decode cX7_columnsOf 5 = .ok (.iaload, 1) := by decide +kernel
theorem dX7_columnsOf_6 : decode cX7_columnsOf 6 = .ok (.ifCond .lt 8, 3) := by decide +kernel
theorem dX7_columnsOf_9 : decode cX7_columnsOf 9 = .ok (.bipush 24, 2) := by decide +kernel
theorem dX7_columnsOf_11 : decode cX7_columnsOf 11 = .ok (.goto 9, 3) := by decide +kernel
theorem dX7_columnsOf_14 : decode cX7_columnsOf 14 = .ok (.aload_n 0, 1) := by decide +kernel
theorem dX7_columnsOf_15 : decode cX7_columnsOf 15 = .ok (.getfield 20, 3) := by decide +kernel
theorem dX7_columnsOf_18 : decode cX7_columnsOf 18 = .ok (.iload_n 1, 1) := by decide +kernel
theorem dX7_columnsOf_19 : decode cX7_columnsOf 19 = .ok (.iaload, 1) := by decide +kernel
theorem dX7_columnsOf_20 : decode cX7_columnsOf 20 = .ok (.ireturn, 1) := by decide +kernel
theorem dX7_templateOf_0 : decode cX7_templateOf 0 = .ok (.aload_n 0, 1) := by decide +kernel
theorem dX7_templateOf_1 : decode cX7_templateOf 1 = .ok (.getfield 20, 3) := by decide +kernel
theorem dX7_templateOf_4 : decode cX7_templateOf 4 = .ok (.iload_n 1, 1) := by decide +kernel
theorem dX7_templateOf_5 : decode cX7_templateOf 5 = .ok (.iaload, 1) := by decide +kernel
theorem dX7_templateOf_6 : decode cX7_templateOf 6 = .ok (.istore_n 3, 1) := by decide +kernel
theorem dX7_templateOf_7 : decode cX7_templateOf 7 = .ok (.iload_n 2, 1) := by decide +kernel
theorem dX7_templateOf_8 : decode cX7_templateOf 8 = .ok (.iload_n 3, 1) := by decide +kernel
theorem dX7_templateOf_9 : decode cX7_templateOf 9 = .ok (.if_icmp .ge 7, 3) := by decide +kernel
theorem dX7_templateOf_12 : decode cX7_templateOf 12 = .ok (.iload_n 2, 1) := by decide +kernel
theorem dX7_templateOf_13 : decode cX7_templateOf 13 = .ok (.goto 27, 3) := by decide +kernel
theorem dX7_templateOf_16 : decode cX7_templateOf 16 = .ok (.aload_n 0, 1) := by decide +kernel
theorem dX7_templateOf_17 : decode cX7_templateOf 17 = .ok (.getfield 23, 3) := by decide +kernel
theorem dX7_templateOf_20 : decode cX7_templateOf 20 = .ok (.iload_n 1, 1) := by decide +kernel
theorem dX7_templateOf_21 : decode cX7_templateOf 21 = .ok (.iaload, 1) := by decide +kernel
theorem dX7_templateOf_22 : decode cX7_templateOf 22 = .ok (.iload_n 2, 1) := by decide +kernel
theorem dX7_templateOf_23 : decode cX7_templateOf 23 = .ok (.aload_n 0, 1) := by decide +kernel
theorem dX7_templateOf_24 : decode cX7_templateOf 24 = .ok (.getfield 23, 3) := by decide +kernel
theorem dX7_templateOf_27 : decode cX7_templateOf 27 = .ok (.iload_n 1, 1) := by decide +kernel
theorem dX7_templateOf_28 : decode cX7_templateOf 28 = .ok (.iaload, 1) := by decide +kernel
theorem dX7_templateOf_29 : decode cX7_templateOf 29 = .ok (.isub, 1) := by decide +kernel
theorem dX7_templateOf_30 : decode cX7_templateOf 30 = .ok (.iload_n 3, 1) := by decide +kernel
theorem dX7_templateOf_31 : decode cX7_templateOf 31 = .ok (.aload_n 0, 1) := by decide +kernel
theorem dX7_templateOf_32 : decode cX7_templateOf 32 = .ok (.getfield 23, 3) := by decide +kernel
theorem dX7_templateOf_35 : decode cX7_templateOf 35 = .ok (.iload_n 1, 1) := by decide +kernel
theorem dX7_templateOf_36 : decode cX7_templateOf 36 = .ok (.iaload, 1) := by decide +kernel
theorem dX7_templateOf_37 : decode cX7_templateOf 37 = .ok (.isub, 1) := by decide +kernel
theorem dX7_templateOf_38 : decode cX7_templateOf 38 = .ok (.irem, 1) := by decide +kernel
theorem dX7_templateOf_39 : decode cX7_templateOf 39 = .ok (.iadd, 1) := by decide +kernel
theorem dX7_templateOf_40 : decode cX7_templateOf 40 = .ok (.ireturn, 1) := by decide +kernel
theorem dX7_wrongGlue_0 : decode cX7_wrongGlue 0 = .ok (.aload_n 0, 1) := by decide +kernel
theorem dX7_wrongGlue_1 : decode cX7_wrongGlue 1 = .ok (.iload_n 1, 1) := by decide +kernel
theorem dX7_wrongGlue_2 : decode cX7_wrongGlue 2 = .ok (.invokevirtual 121, 3) := by decide +kernel
theorem dX7_wrongGlue_5 : decode cX7_wrongGlue 5 = .ok (.ifCond .ne 7, 3) := by decide +kernel
theorem dX7_wrongGlue_8 : decode cX7_wrongGlue 8 = .ok (.iconst (-1), 1) := by decide +kernel
theorem dX7_wrongGlue_9 : decode cX7_wrongGlue 9 = .ok (.goto 38, 3) := by decide +kernel
theorem dX7_wrongGlue_12 : decode cX7_wrongGlue 12 = .ok (.aload_n 0, 1) := by decide +kernel
theorem dX7_wrongGlue_13 : decode cX7_wrongGlue 13 = .ok (.getfield 16, 3) := by decide +kernel
theorem dX7_wrongGlue_16 : decode cX7_wrongGlue 16 = .ok (.iload_n 1, 1) := by decide +kernel
theorem dX7_wrongGlue_17 : decode cX7_wrongGlue 17 = .ok (.baload, 1) := by decide +kernel
theorem dX7_wrongGlue_18 : decode cX7_wrongGlue 18 = .ok (.ifCond .ne 8, 3) := by decide +kernel
theorem dX7_wrongGlue_21 : decode cX7_wrongGlue 21 = .ok (.bipush (-3), 2) := by decide +kernel
theorem dX7_wrongGlue_23 : decode cX7_wrongGlue 23 = .ok (.goto 24, 3) := by decide +kernel
theorem dX7_wrongGlue_26 : decode cX7_wrongGlue 26 = .ok (.iload_n 2, 1) := by decide +kernel
theorem dX7_wrongGlue_27 : decode cX7_wrongGlue 27 = .ok (.i2l, 1) := by decide +kernel
theorem dX7_wrongGlue_28 : decode cX7_wrongGlue 28 = .ok (.lconst 0, 1) := by decide +kernel
theorem dX7_wrongGlue_29 : decode cX7_wrongGlue 29 = .ok (.aload_n 0, 1) := by decide +kernel
theorem dX7_wrongGlue_30 : decode cX7_wrongGlue 30 = .ok (.getfield 20, 3) := by decide +kernel
theorem dX7_wrongGlue_33 : decode cX7_wrongGlue 33 = .ok (.iload_n 1, 1) := by decide +kernel
theorem dX7_wrongGlue_34 : decode cX7_wrongGlue 34 = .ok (.iaload, 1) := by decide +kernel
theorem dX7_wrongGlue_35 : decode cX7_wrongGlue 35 = .ok (.i2l, 1) := by decide +kernel
theorem dX7_wrongGlue_36 : decode cX7_wrongGlue 36 = .ok (.invokestatic 149, 3) := by decide +kernel
theorem dX7_wrongGlue_39 : decode cX7_wrongGlue 39 = .ok (.ifCond .ne 7, 3) := by decide +kernel
theorem dX7_wrongGlue_42 : decode cX7_wrongGlue 42 = .ok (.iconst (-1), 1) := by decide +kernel
theorem dX7_wrongGlue_43 : decode cX7_wrongGlue 43 = .ok (.goto 4, 3) := by decide +kernel
theorem dX7_wrongGlue_46 : decode cX7_wrongGlue 46 = .ok (.iconst 0, 1) := by decide +kernel
theorem dX7_wrongGlue_47 : decode cX7_wrongGlue 47 = .ok (.ireturn, 1) := by decide +kernel
theorem dX7_glue_0 : decode cX7_glue 0 = .ok (.aload_n 0, 1) := by decide +kernel
theorem dX7_glue_1 : decode cX7_glue 1 = .ok (.iconst 0, 1) := by decide +kernel
theorem dX7_glue_2 : decode cX7_glue 2 = .ok (.putfield 114, 3) := by decide +kernel
theorem dX7_glue_5 : decode cX7_glue 5 = .ok (.aload_n 0, 1) := by decide +kernel
theorem dX7_glue_6 : decode cX7_glue 6 = .ok (.iload_n 1, 1) := by decide +kernel
theorem dX7_glue_7 : decode cX7_glue 7 = .ok (.iload_n 2, 1) := by decide +kernel
theorem dX7_glue_8 : decode cX7_glue 8 = .ok (.invokevirtual 153, 3) := by decide +kernel
theorem dX7_glue_11 : decode cX7_glue 11 = .ok (.istore 6, 2) := by decide +kernel
theorem dX7_glue_13 : decode cX7_glue 13 = .ok (.iload 6, 2) := by decide +kernel
theorem dX7_glue_15 : decode cX7_glue 15 = .ok (.ifCond .eq 6, 3) := by decide +kernel
theorem dX7_glue_18 : decode cX7_glue 18 = .ok (.iload 6, 2) := by decide +kernel
theorem dX7_glue_20 : decode cX7_glue 20 = .ok (.ireturn, 1) := by decide +kernel
theorem dX7_glue_21 : decode cX7_glue 21 = .ok (.iload_n 3, 1) := by decide +kernel
theorem dX7_glue_22 : decode cX7_glue 22 = .ok (.i2l, 1) := by decide +kernel
theorem dX7_glue_23 : decode cX7_glue 23 = .ok (.ldc2_w 157, 3) := by decide +kernel
theorem dX7_glue_26 : decode cX7_glue 26 = .ok (.ldc2_w 159, 3) := by decide +kernel
theorem dX7_glue_29 : decode cX7_glue 29 = .ok (.invokestatic 149, 3) := by decide +kernel
theorem dX7_glue_32 : decode cX7_glue 32 = .ok (.ifCond .eq 29, 3) := by decide +kernel
theorem dX7_glue_35 : decode cX7_glue 35 = .ok (.iload 4, 2) := by decide +kernel
theorem dX7_glue_37 : decode cX7_glue 37 = .ok (.i2l, 1) := by decide +kernel
theorem dX7_glue_38 : decode cX7_glue 38 = .ok (.lconst 0, 1) := by decide +kernel
theorem dX7_glue_39 : decode cX7_glue 39 = .ok (.ldc2_w 159, 3) := by decide +kernel
theorem dX7_glue_42 : decode cX7_glue 42 = .ok (.invokestatic 149, 3) := by decide +kernel
theorem dX7_glue_45 : decode cX7_glue 45 = .ok (.ifCond .eq 16, 3) := by decide +kernel
theorem dX7_glue_48 : decode cX7_glue 48 = .ok (.iload 5, 2) := by decide +kernel
theorem dX7_glue_50 : decode cX7_glue 50 = .ok (.i2l, 1) := by decide +kernel
theorem dX7_glue_51 : decode cX7_glue 51 = .ok (.lconst 0, 1) := by decide +kernel
theorem dX7_glue_52 : decode cX7_glue 52 = .ok (.ldc2_w 161, 3) := by decide +kernel
theorem dX7_glue_55 : decode cX7_glue 55 = .ok (.invokestatic 149, 3) := by decide +kernel
theorem dX7_glue_58 : decode cX7_glue 58 = .ok (.ifCond .ne 6, 3) := by decide +kernel
theorem dX7_glue_61 : decode cX7_glue 61 = .ok (.bipush (-2), 2) := by decide +kernel
theorem dX7_glue_63 : decode cX7_glue 63 = .ok (.ireturn, 1) := by decide +kernel
theorem dX7_glue_64 : decode cX7_glue 64 = .ok (.aload_n 0, 1) := by decide +kernel
theorem dX7_glue_65 : decode cX7_glue 65 = .ok (.getfield 32, 3) := by decide +kernel
theorem dX7_glue_68 : decode cX7_glue 68 = .ok (.bipush 13, 2) := by decide +kernel
theorem dX7_glue_70 : decode cX7_glue 70 = .ok (.iload_n 1, 1) := by decide +kernel
theorem dX7_glue_71 : decode cX7_glue 71 = .ok (.imul, 1) := by decide +kernel
theorem dX7_glue_72 : decode cX7_glue 72 = .ok (.iload_n 2, 1) := by decide +kernel
theorem dX7_glue_73 : decode cX7_glue 73 = .ok (.iadd, 1) := by decide +kernel
theorem dX7_glue_74 : decode cX7_glue 74 = .ok (.iload_n 3, 1) := by decide +kernel
theorem dX7_glue_75 : decode cX7_glue 75 = .ok (.iastore, 1) := by decide +kernel
theorem dX7_glue_76 : decode cX7_glue 76 = .ok (.aload_n 0, 1) := by decide +kernel
theorem dX7_glue_77 : decode cX7_glue 77 = .ok (.getfield 35, 3) := by decide +kernel
theorem dX7_glue_80 : decode cX7_glue 80 = .ok (.bipush 13, 2) := by decide +kernel
theorem dX7_glue_82 : decode cX7_glue 82 = .ok (.iload_n 1, 1) := by decide +kernel
theorem dX7_glue_83 : decode cX7_glue 83 = .ok (.imul, 1) := by decide +kernel
theorem dX7_glue_84 : decode cX7_glue 84 = .ok (.iload_n 2, 1) := by decide +kernel
theorem dX7_glue_85 : decode cX7_glue 85 = .ok (.iadd, 1) := by decide +kernel
theorem dX7_glue_86 : decode cX7_glue 86 = .ok (.iload 4, 2) := by decide +kernel
theorem dX7_glue_88 : decode cX7_glue 88 = .ok (.iastore, 1) := by decide +kernel
theorem dX7_glue_89 : decode cX7_glue 89 = .ok (.aload_n 0, 1) := by decide +kernel
theorem dX7_glue_90 : decode cX7_glue 90 = .ok (.getfield 38, 3) := by decide +kernel
theorem dX7_glue_93 : decode cX7_glue 93 = .ok (.bipush 13, 2) := by decide +kernel
theorem dX7_glue_95 : decode cX7_glue 95 = .ok (.iload_n 1, 1) := by decide +kernel
theorem dX7_glue_96 : decode cX7_glue 96 = .ok (.imul, 1) := by decide +kernel
theorem dX7_glue_97 : decode cX7_glue 97 = .ok (.iload_n 2, 1) := by decide +kernel
theorem dX7_glue_98 : decode cX7_glue 98 = .ok (.iadd, 1) := by decide +kernel
theorem dX7_glue_99 : decode cX7_glue 99 = .ok (.iload 5, 2) := by decide +kernel
theorem dX7_glue_101 : decode cX7_glue 101 = .ok (.iastore, 1) := by decide +kernel
theorem dX7_glue_102 : decode cX7_glue 102 = .ok (.iconst 1, 1) := by decide +kernel
theorem dX7_glue_103 : decode cX7_glue 103 = .ok (.ireturn, 1) := by decide +kernel
theorem dX7_shrink_0 : decode cX7_shrink 0 = .ok (.aload_n 0, 1) := by decide +kernel
theorem dX7_shrink_1 : decode cX7_shrink 1 = .ok (.iconst 0, 1) := by decide +kernel
theorem dX7_shrink_2 : decode cX7_shrink 2 = .ok (.putfield 114, 3) := by decide +kernel
theorem dX7_shrink_5 : decode cX7_shrink 5 = .ok (.aload_n 0, 1) := by decide +kernel
theorem dX7_shrink_6 : decode cX7_shrink 6 = .ok (.iload_n 1, 1) := by decide +kernel
theorem dX7_shrink_7 : decode cX7_shrink 7 = .ok (.iload_n 2, 1) := by decide +kernel
theorem dX7_shrink_8 : decode cX7_shrink 8 = .ok (.invokevirtual 153, 3) := by decide +kernel
theorem dX7_shrink_11 : decode cX7_shrink 11 = .ok (.istore 5, 2) := by decide +kernel
theorem dX7_shrink_13 : decode cX7_shrink 13 = .ok (.iload 5, 2) := by decide +kernel
theorem dX7_shrink_15 : decode cX7_shrink 15 = .ok (.ifCond .eq 6, 3) := by decide +kernel
theorem dX7_shrink_18 : decode cX7_shrink 18 = .ok (.iload 5, 2) := by decide +kernel
theorem dX7_shrink_20 : decode cX7_shrink 20 = .ok (.ireturn, 1) := by decide +kernel
theorem dX7_shrink_21 : decode cX7_shrink 21 = .ok (.iload_n 3, 1) := by decide +kernel
theorem dX7_shrink_22 : decode cX7_shrink 22 = .ok (.i2l, 1) := by decide +kernel
theorem dX7_shrink_23 : decode cX7_shrink 23 = .ok (.lconst 0, 1) := by decide +kernel
theorem dX7_shrink_24 : decode cX7_shrink 24 = .ok (.ldc2_w 159, 3) := by decide +kernel
theorem dX7_shrink_27 : decode cX7_shrink 27 = .ok (.invokestatic 149, 3) := by decide +kernel
theorem dX7_shrink_30 : decode cX7_shrink 30 = .ok (.ifCond .eq 16, 3) := by decide +kernel
theorem dX7_shrink_33 : decode cX7_shrink 33 = .ok (.iload 4, 2) := by decide +kernel
theorem dX7_shrink_35 : decode cX7_shrink 35 = .ok (.i2l, 1) := by decide +kernel
theorem dX7_shrink_36 : decode cX7_shrink 36 = .ok (.lconst 0, 1) := by decide +kernel
theorem dX7_shrink_37 : decode cX7_shrink 37 = .ok (.ldc2_w 161, 3) := by decide +kernel
theorem dX7_shrink_40 : decode cX7_shrink 40 = .ok (.invokestatic 149, 3) := by decide +kernel
theorem dX7_shrink_43 : decode cX7_shrink 43 = .ok (.ifCond .ne 6, 3) := by decide +kernel
theorem dX7_shrink_46 : decode cX7_shrink 46 = .ok (.bipush (-2), 2) := by decide +kernel
theorem dX7_shrink_48 : decode cX7_shrink 48 = .ok (.ireturn, 1) := by decide +kernel
theorem dX7_shrink_49 : decode cX7_shrink 49 = .ok (.aload_n 0, 1) := by decide +kernel
theorem dX7_shrink_50 : decode cX7_shrink 50 = .ok (.getfield 41, 3) := by decide +kernel
theorem dX7_shrink_53 : decode cX7_shrink 53 = .ok (.bipush 13, 2) := by decide +kernel
theorem dX7_shrink_55 : decode cX7_shrink 55 = .ok (.iload_n 1, 1) := by decide +kernel
theorem dX7_shrink_56 : decode cX7_shrink 56 = .ok (.imul, 1) := by decide +kernel
theorem dX7_shrink_57 : decode cX7_shrink 57 = .ok (.iload_n 2, 1) := by decide +kernel
theorem dX7_shrink_58 : decode cX7_shrink 58 = .ok (.iadd, 1) := by decide +kernel
theorem dX7_shrink_59 : decode cX7_shrink 59 = .ok (.iload_n 3, 1) := by decide +kernel
theorem dX7_shrink_60 : decode cX7_shrink 60 = .ok (.iastore, 1) := by decide +kernel
theorem dX7_shrink_61 : decode cX7_shrink 61 = .ok (.aload_n 0, 1) := by decide +kernel
theorem dX7_shrink_62 : decode cX7_shrink 62 = .ok (.getfield 44, 3) := by decide +kernel
theorem dX7_shrink_65 : decode cX7_shrink 65 = .ok (.bipush 13, 2) := by decide +kernel
theorem dX7_shrink_67 : decode cX7_shrink 67 = .ok (.iload_n 1, 1) := by decide +kernel
theorem dX7_shrink_68 : decode cX7_shrink 68 = .ok (.imul, 1) := by decide +kernel
theorem dX7_shrink_69 : decode cX7_shrink 69 = .ok (.iload_n 2, 1) := by decide +kernel
theorem dX7_shrink_70 : decode cX7_shrink 70 = .ok (.iadd, 1) := by decide +kernel
theorem dX7_shrink_71 : decode cX7_shrink 71 = .ok (.iload 4, 2) := by decide +kernel
theorem dX7_shrink_73 : decode cX7_shrink 73 = .ok (.iastore, 1) := by decide +kernel
theorem dX7_shrink_74 : decode cX7_shrink 74 = .ok (.iconst 1, 1) := by decide +kernel
theorem dX7_shrink_75 : decode cX7_shrink 75 = .ok (.ireturn, 1) := by decide +kernel
theorem dX7_stand_0 : decode cX7_stand 0 = .ok (.aload_n 0, 1) := by decide +kernel
theorem dX7_stand_1 : decode cX7_stand 1 = .ok (.getfield 74, 3) := by decide +kernel
theorem dX7_stand_4 : decode cX7_stand 4 = .ok (.bipush 40, 2) := by decide +kernel
theorem dX7_stand_6 : decode cX7_stand 6 = .ok (.iload_n 1, 1) := by decide +kernel
theorem dX7_stand_7 : decode cX7_stand 7 = .ok (.imul, 1) := by decide +kernel
theorem dX7_stand_8 : decode cX7_stand 8 = .ok (.aload_n 0, 1) := by decide +kernel
theorem dX7_stand_9 : decode cX7_stand 9 = .ok (.getfield 71, 3) := by decide +kernel
theorem dX7_stand_12 : decode cX7_stand 12 = .ok (.iload_n 1, 1) := by decide +kernel
theorem dX7_stand_13 : decode cX7_stand 13 = .ok (.iaload, 1) := by decide +kernel
theorem dX7_stand_14 : decode cX7_stand 14 = .ok (.iadd, 1) := by decide +kernel
theorem dX7_stand_15 : decode cX7_stand 15 = .ok (.iload_n 2, 1) := by decide +kernel
theorem dX7_stand_16 : decode cX7_stand 16 = .ok (.iastore, 1) := by decide +kernel
theorem dX7_stand_17 : decode cX7_stand 17 = .ok (.aload_n 0, 1) := by decide +kernel
theorem dX7_stand_18 : decode cX7_stand 18 = .ok (.getfield 71, 3) := by decide +kernel
theorem dX7_stand_21 : decode cX7_stand 21 = .ok (.iload_n 1, 1) := by decide +kernel
theorem dX7_stand_22 : decode cX7_stand 22 = .ok (.dup2, 1) := by decide +kernel
theorem dX7_stand_23 : decode cX7_stand 23 = .ok (.iaload, 1) := by decide +kernel
theorem dX7_stand_24 : decode cX7_stand 24 = .ok (.iconst 1, 1) := by decide +kernel
theorem dX7_stand_25 : decode cX7_stand 25 = .ok (.iadd, 1) := by decide +kernel
theorem dX7_stand_26 : decode cX7_stand 26 = .ok (.iastore, 1) := by decide +kernel
theorem dX7_stand_27 : decode cX7_stand 27 = .ok (.return_, 1) := by decide +kernel
theorem dX7_row_0 : decode cX7_row 0 = .ok (.aload_n 0, 1) := by decide +kernel
theorem dX7_row_1 : decode cX7_row 1 = .ok (.iconst 0, 1) := by decide +kernel
theorem dX7_row_2 : decode cX7_row 2 = .ok (.putfield 114, 3) := by decide +kernel
theorem dX7_row_5 : decode cX7_row 5 = .ok (.aload_n 0, 1) := by decide +kernel
theorem dX7_row_6 : decode cX7_row 6 = .ok (.iload_n 1, 1) := by decide +kernel
theorem dX7_row_7 : decode cX7_row 7 = .ok (.invokevirtual 121, 3) := by decide +kernel
theorem dX7_row_10 : decode cX7_row 10 = .ok (.ifCond .ne 5, 3) := by decide +kernel
theorem dX7_row_13 : decode cX7_row 13 = .ok (.iconst (-1), 1) := by decide +kernel
theorem dX7_row_14 : decode cX7_row 14 = .ok (.ireturn, 1) := by decide +kernel
theorem dX7_row_15 : decode cX7_row 15 = .ok (.aload_n 0, 1) := by decide +kernel
theorem dX7_row_16 : decode cX7_row 16 = .ok (.getfield 16, 3) := by decide +kernel
theorem dX7_row_19 : decode cX7_row 19 = .ok (.iload_n 1, 1) := by decide +kernel
theorem dX7_row_20 : decode cX7_row 20 = .ok (.baload, 1) := by decide +kernel
theorem dX7_row_21 : decode cX7_row 21 = .ok (.ifCond .eq 12, 3) := by decide +kernel
theorem dX7_row_24 : decode cX7_row 24 = .ok (.aload_n 0, 1) := by decide +kernel
theorem dX7_row_25 : decode cX7_row 25 = .ok (.getfield 50, 3) := by decide +kernel
theorem dX7_row_28 : decode cX7_row 28 = .ok (.iload_n 1, 1) := by decide +kernel
theorem dX7_row_29 : decode cX7_row 29 = .ok (.baload, 1) := by decide +kernel
theorem dX7_row_30 : decode cX7_row 30 = .ok (.ifCond .eq 6, 3) := by decide +kernel
theorem dX7_row_33 : decode cX7_row 33 = .ok (.bipush (-3), 2) := by decide +kernel
theorem dX7_row_35 : decode cX7_row 35 = .ok (.ireturn, 1) := by decide +kernel
theorem dX7_row_36 : decode cX7_row 36 = .ok (.aload_n 0, 1) := by decide +kernel
theorem dX7_row_37 : decode cX7_row 37 = .ok (.getfield 47, 3) := by decide +kernel
theorem dX7_row_40 : decode cX7_row 40 = .ok (.iload_n 1, 1) := by decide +kernel
theorem dX7_row_41 : decode cX7_row 41 = .ok (.iaload, 1) := by decide +kernel
theorem dX7_row_42 : decode cX7_row 42 = .ok (.bipush 20, 2) := by decide +kernel
theorem dX7_row_44 : decode cX7_row 44 = .ok (.if_icmp .ne 6, 3) := by decide +kernel
theorem dX7_row_47 : decode cX7_row 47 = .ok (.bipush (-4), 2) := by decide +kernel
theorem dX7_row_49 : decode cX7_row 49 = .ok (.ireturn, 1) := by decide +kernel
theorem dX7_row_50 : decode cX7_row 50 = .ok (.aload_n 0, 1) := by decide +kernel
theorem dX7_row_51 : decode cX7_row 51 = .ok (.getfield 50, 3) := by decide +kernel
theorem dX7_row_54 : decode cX7_row 54 = .ok (.iload_n 1, 1) := by decide +kernel
theorem dX7_row_55 : decode cX7_row 55 = .ok (.iconst 1, 1) := by decide +kernel
theorem dX7_row_56 : decode cX7_row 56 = .ok (.bastore, 1) := by decide +kernel
theorem dX7_row_57 : decode cX7_row 57 = .ok (.aload_n 0, 1) := by decide +kernel
theorem dX7_row_58 : decode cX7_row 58 = .ok (.getfield 53, 3) := by decide +kernel
theorem dX7_row_61 : decode cX7_row 61 = .ok (.bipush 20, 2) := by decide +kernel
theorem dX7_row_63 : decode cX7_row 63 = .ok (.iload_n 1, 1) := by decide +kernel
theorem dX7_row_64 : decode cX7_row 64 = .ok (.imul, 1) := by decide +kernel
theorem dX7_row_65 : decode cX7_row 65 = .ok (.aload_n 0, 1) := by decide +kernel
theorem dX7_row_66 : decode cX7_row 66 = .ok (.getfield 47, 3) := by decide +kernel
theorem dX7_row_69 : decode cX7_row 69 = .ok (.iload_n 1, 1) := by decide +kernel
theorem dX7_row_70 : decode cX7_row 70 = .ok (.iaload, 1) := by decide +kernel
theorem dX7_row_71 : decode cX7_row 71 = .ok (.iadd, 1) := by decide +kernel
theorem dX7_row_72 : decode cX7_row 72 = .ok (.aload_n 0, 1) := by decide +kernel
theorem dX7_row_73 : decode cX7_row 73 = .ok (.getfield 59, 3) := by decide +kernel
theorem dX7_row_76 : decode cX7_row 76 = .ok (.iload_n 1, 1) := by decide +kernel
theorem dX7_row_77 : decode cX7_row 77 = .ok (.iaload, 1) := by decide +kernel
theorem dX7_row_78 : decode cX7_row 78 = .ok (.iastore, 1) := by decide +kernel
theorem dX7_row_79 : decode cX7_row 79 = .ok (.aload_n 0, 1) := by decide +kernel
theorem dX7_row_80 : decode cX7_row 80 = .ok (.getfield 56, 3) := by decide +kernel
theorem dX7_row_83 : decode cX7_row 83 = .ok (.bipush 20, 2) := by decide +kernel
theorem dX7_row_85 : decode cX7_row 85 = .ok (.iload_n 1, 1) := by decide +kernel
theorem dX7_row_86 : decode cX7_row 86 = .ok (.imul, 1) := by decide +kernel
theorem dX7_row_87 : decode cX7_row 87 = .ok (.aload_n 0, 1) := by decide +kernel
theorem dX7_row_88 : decode cX7_row 88 = .ok (.getfield 47, 3) := by decide +kernel
theorem dX7_row_91 : decode cX7_row 91 = .ok (.iload_n 1, 1) := by decide +kernel
theorem dX7_row_92 : decode cX7_row 92 = .ok (.iaload, 1) := by decide +kernel
theorem dX7_row_93 : decode cX7_row 93 = .ok (.iadd, 1) := by decide +kernel
theorem dX7_row_94 : decode cX7_row 94 = .ok (.iconst 0, 1) := by decide +kernel
theorem dX7_row_95 : decode cX7_row 95 = .ok (.iastore, 1) := by decide +kernel
theorem dX7_row_96 : decode cX7_row 96 = .ok (.aload_n 0, 1) := by decide +kernel
theorem dX7_row_97 : decode cX7_row 97 = .ok (.iload_n 1, 1) := by decide +kernel
theorem dX7_row_98 : decode cX7_row 98 = .ok (.aload_n 0, 1) := by decide +kernel
theorem dX7_row_99 : decode cX7_row 99 = .ok (.getfield 47, 3) := by decide +kernel
theorem dX7_row_102 : decode cX7_row 102 = .ok (.iload_n 1, 1) := by decide +kernel
theorem dX7_row_103 : decode cX7_row 103 = .ok (.iaload, 1) := by decide +kernel
theorem dX7_row_104 : decode cX7_row 104 = .ok (.invokevirtual 163, 3) := by decide +kernel
theorem dX7_row_107 : decode cX7_row 107 = .ok (.aload_n 0, 1) := by decide +kernel
theorem dX7_row_108 : decode cX7_row 108 = .ok (.getfield 47, 3) := by decide +kernel
theorem dX7_row_111 : decode cX7_row 111 = .ok (.iload_n 1, 1) := by decide +kernel
theorem dX7_row_112 : decode cX7_row 112 = .ok (.dup2, 1) := by decide +kernel
theorem dX7_row_113 : decode cX7_row 113 = .ok (.iaload, 1) := by decide +kernel
theorem dX7_row_114 : decode cX7_row 114 = .ok (.iconst 1, 1) := by decide +kernel
theorem dX7_row_115 : decode cX7_row 115 = .ok (.iadd, 1) := by decide +kernel
theorem dX7_row_116 : decode cX7_row 116 = .ok (.iastore, 1) := by decide +kernel
theorem dX7_row_117 : decode cX7_row 117 = .ok (.aload_n 0, 1) := by decide +kernel
theorem dX7_row_118 : decode cX7_row 118 = .ok (.getfield 47, 3) := by decide +kernel
theorem dX7_row_121 : decode cX7_row 121 = .ok (.iload_n 1, 1) := by decide +kernel
theorem dX7_row_122 : decode cX7_row 122 = .ok (.iaload, 1) := by decide +kernel
theorem dX7_row_123 : decode cX7_row 123 = .ok (.iconst 1, 1) := by decide +kernel
theorem dX7_row_124 : decode cX7_row 124 = .ok (.isub, 1) := by decide +kernel
theorem dX7_row_125 : decode cX7_row 125 = .ok (.ireturn, 1) := by decide +kernel
theorem dX7_free_0 : decode cX7_free 0 = .ok (.bipush 20, 2) := by decide +kernel
theorem dX7_free_2 : decode cX7_free 2 = .ok (.iload_n 1, 1) := by decide +kernel
theorem dX7_free_3 : decode cX7_free 3 = .ok (.imul, 1) := by decide +kernel
theorem dX7_free_4 : decode cX7_free 4 = .ok (.aload_n 0, 1) := by decide +kernel
theorem dX7_free_5 : decode cX7_free 5 = .ok (.getfield 47, 3) := by decide +kernel
theorem dX7_free_8 : decode cX7_free 8 = .ok (.iload_n 1, 1) := by decide +kernel
theorem dX7_free_9 : decode cX7_free 9 = .ok (.iaload, 1) := by decide +kernel
theorem dX7_free_10 : decode cX7_free 10 = .ok (.iadd, 1) := by decide +kernel
theorem dX7_free_11 : decode cX7_free 11 = .ok (.iconst 1, 1) := by decide +kernel
theorem dX7_free_12 : decode cX7_free 12 = .ok (.isub, 1) := by decide +kernel
theorem dX7_free_13 : decode cX7_free 13 = .ok (.istore_n 2, 1) := by decide +kernel
theorem dX7_free_14 : decode cX7_free 14 = .ok (.aload_n 0, 1) := by decide +kernel
theorem dX7_free_15 : decode cX7_free 15 = .ok (.getfield 56, 3) := by decide +kernel
theorem dX7_free_18 : decode cX7_free 18 = .ok (.iload_n 2, 1) := by decide +kernel
theorem dX7_free_19 : decode cX7_free 19 = .ok (.iaload, 1) := by decide +kernel
theorem dX7_free_20 : decode cX7_free 20 = .ok (.ifCond .ne 5, 3) := by decide +kernel
theorem dX7_free_23 : decode cX7_free 23 = .ok (.iconst 0, 1) := by decide +kernel
theorem dX7_free_24 : decode cX7_free 24 = .ok (.ireturn, 1) := by decide +kernel
theorem dX7_free_25 : decode cX7_free 25 = .ok (.sipush 480, 3) := by decide +kernel
theorem dX7_free_28 : decode cX7_free 28 = .ok (.iload_n 1, 1) := by decide +kernel
theorem dX7_free_29 : decode cX7_free 29 = .ok (.imul, 1) := by decide +kernel
theorem dX7_free_30 : decode cX7_free 30 = .ok (.aload_n 0, 1) := by decide +kernel
theorem dX7_free_31 : decode cX7_free 31 = .ok (.getfield 59, 3) := by decide +kernel
theorem dX7_free_34 : decode cX7_free 34 = .ok (.iload_n 1, 1) := by decide +kernel
theorem dX7_free_35 : decode cX7_free 35 = .ok (.iaload, 1) := by decide +kernel
theorem dX7_free_36 : decode cX7_free 36 = .ok (.iadd, 1) := by decide +kernel
theorem dX7_free_37 : decode cX7_free 37 = .ok (.iconst 1, 1) := by decide +kernel
theorem dX7_free_38 : decode cX7_free 38 = .ok (.isub, 1) := by decide +kernel
theorem dX7_free_39 : decode cX7_free 39 = .ok (.istore_n 3, 1) := by decide +kernel
theorem dX7_free_40 : decode cX7_free 40 = .ok (.aload_n 0, 1) := by decide +kernel
theorem dX7_free_41 : decode cX7_free 41 = .ok (.getfield 65, 3) := by decide +kernel
theorem dX7_free_44 : decode cX7_free 44 = .ok (.iload_n 3, 1) := by decide +kernel
theorem dX7_free_45 : decode cX7_free 45 = .ok (.iaload, 1) := by decide +kernel
theorem dX7_free_46 : decode cX7_free 46 = .ok (.aload_n 0, 1) := by decide +kernel
theorem dX7_free_47 : decode cX7_free 47 = .ok (.getfield 68, 3) := by decide +kernel
theorem dX7_free_50 : decode cX7_free 50 = .ok (.iload_n 3, 1) := by decide +kernel
theorem dX7_free_51 : decode cX7_free 51 = .ok (.iaload, 1) := by decide +kernel
theorem dX7_free_52 : decode cX7_free 52 = .ok (.iadd, 1) := by decide +kernel
theorem dX7_free_53 : decode cX7_free 53 = .ok (.ireturn, 1) := by decide +kernel
theorem dX7_add_0 : decode cX7_add 0 = .ok (.sipush 480, 3) := by decide +kernel
theorem dX7_add_3 : decode cX7_add 3 = .ok (.iload_n 1, 1) := by decide +kernel
theorem dX7_add_4 : decode cX7_add 4 = .ok (.imul, 1) := by decide +kernel
theorem dX7_add_5 : decode cX7_add 5 = .ok (.aload_n 0, 1) := by decide +kernel
theorem dX7_add_6 : decode cX7_add 6 = .ok (.getfield 59, 3) := by decide +kernel
theorem dX7_add_9 : decode cX7_add 9 = .ok (.iload_n 1, 1) := by decide +kernel
theorem dX7_add_10 : decode cX7_add 10 = .ok (.iaload, 1) := by decide +kernel
theorem dX7_add_11 : decode cX7_add 11 = .ok (.iadd, 1) := by decide +kernel
theorem dX7_add_12 : decode cX7_add 12 = .ok (.istore 4, 2) := by decide +kernel
theorem dX7_add_14 : decode cX7_add 14 = .ok (.aload_n 0, 1) := by decide +kernel
theorem dX7_add_15 : decode cX7_add 15 = .ok (.getfield 65, 3) := by decide +kernel
theorem dX7_add_18 : decode cX7_add 18 = .ok (.iload 4, 2) := by decide +kernel
theorem dX7_add_20 : decode cX7_add 20 = .ok (.aload_n 0, 1) := by decide +kernel
theorem dX7_add_21 : decode cX7_add 21 = .ok (.iload_n 1, 1) := by decide +kernel
theorem dX7_add_22 : decode cX7_add 22 = .ok (.invokevirtual 167, 3) := by decide +kernel
theorem dX7_add_25 : decode cX7_add 25 = .ok (.iastore, 1) := by decide +kernel
theorem dX7_add_26 : decode cX7_add 26 = .ok (.aload_n 0, 1) := by decide +kernel
theorem dX7_add_27 : decode cX7_add 27 = .ok (.getfield 68, 3) := by decide +kernel
theorem dX7_add_30 : decode cX7_add 30 = .ok (.iload 4, 2) := by decide +kernel
theorem dX7_add_32 : decode cX7_add 32 = .ok (.iload_n 3, 1) := by decide +kernel
theorem dX7_add_33 : decode cX7_add 33 = .ok (.iastore, 1) := by decide +kernel
theorem dX7_add_34 : decode cX7_add 34 = .ok (.aload_n 0, 1) := by decide +kernel
theorem dX7_add_35 : decode cX7_add 35 = .ok (.getfield 62, 3) := by decide +kernel
theorem dX7_add_38 : decode cX7_add 38 = .ok (.iload 4, 2) := by decide +kernel
theorem dX7_add_40 : decode cX7_add 40 = .ok (.iload_n 2, 1) := by decide +kernel
theorem dX7_add_41 : decode cX7_add 41 = .ok (.iastore, 1) := by decide +kernel
theorem dX7_add_42 : decode cX7_add 42 = .ok (.aload_n 0, 1) := by decide +kernel
theorem dX7_add_43 : decode cX7_add 43 = .ok (.getfield 59, 3) := by decide +kernel
theorem dX7_add_46 : decode cX7_add 46 = .ok (.iload_n 1, 1) := by decide +kernel
theorem dX7_add_47 : decode cX7_add 47 = .ok (.dup2, 1) := by decide +kernel
theorem dX7_add_48 : decode cX7_add 48 = .ok (.iaload, 1) := by decide +kernel
theorem dX7_add_49 : decode cX7_add 49 = .ok (.iconst 1, 1) := by decide +kernel
theorem dX7_add_50 : decode cX7_add 50 = .ok (.iadd, 1) := by decide +kernel
theorem dX7_add_51 : decode cX7_add 51 = .ok (.iastore, 1) := by decide +kernel
theorem dX7_add_52 : decode cX7_add 52 = .ok (.aload_n 0, 1) := by decide +kernel
theorem dX7_add_53 : decode cX7_add 53 = .ok (.getfield 56, 3) := by decide +kernel
theorem dX7_add_56 : decode cX7_add 56 = .ok (.bipush 20, 2) := by decide +kernel
theorem dX7_add_58 : decode cX7_add 58 = .ok (.iload_n 1, 1) := by decide +kernel
theorem dX7_add_59 : decode cX7_add 59 = .ok (.imul, 1) := by decide +kernel
theorem dX7_add_60 : decode cX7_add 60 = .ok (.aload_n 0, 1) := by decide +kernel
theorem dX7_add_61 : decode cX7_add 61 = .ok (.getfield 47, 3) := by decide +kernel
theorem dX7_add_64 : decode cX7_add 64 = .ok (.iload_n 1, 1) := by decide +kernel
theorem dX7_add_65 : decode cX7_add 65 = .ok (.iaload, 1) := by decide +kernel
theorem dX7_add_66 : decode cX7_add 66 = .ok (.iadd, 1) := by decide +kernel
theorem dX7_add_67 : decode cX7_add 67 = .ok (.iconst 1, 1) := by decide +kernel
theorem dX7_add_68 : decode cX7_add 68 = .ok (.isub, 1) := by decide +kernel
theorem dX7_add_69 : decode cX7_add 69 = .ok (.dup2, 1) := by decide +kernel
theorem dX7_add_70 : decode cX7_add 70 = .ok (.iaload, 1) := by decide +kernel
theorem dX7_add_71 : decode cX7_add 71 = .ok (.iconst 1, 1) := by decide +kernel
theorem dX7_add_72 : decode cX7_add 72 = .ok (.iadd, 1) := by decide +kernel
theorem dX7_add_73 : decode cX7_add 73 = .ok (.iastore, 1) := by decide +kernel
theorem dX7_add_74 : decode cX7_add 74 = .ok (.aload_n 0, 1) := by decide +kernel
theorem dX7_add_75 : decode cX7_add 75 = .ok (.getfield 65, 3) := by decide +kernel
theorem dX7_add_78 : decode cX7_add 78 = .ok (.iload 4, 2) := by decide +kernel
theorem dX7_add_80 : decode cX7_add 80 = .ok (.iaload, 1) := by decide +kernel
theorem dX7_add_81 : decode cX7_add 81 = .ok (.ireturn, 1) := by decide +kernel
theorem dX7_entry_0 : decode cX7_entry 0 = .ok (.aload_n 0, 1) := by decide +kernel
theorem dX7_entry_1 : decode cX7_entry 1 = .ok (.iconst 0, 1) := by decide +kernel
theorem dX7_entry_2 : decode cX7_entry 2 = .ok (.putfield 114, 3) := by decide +kernel
theorem dX7_entry_5 : decode cX7_entry 5 = .ok (.aload_n 0, 1) := by decide +kernel
theorem dX7_entry_6 : decode cX7_entry 6 = .ok (.iload_n 1, 1) := by decide +kernel
theorem dX7_entry_7 : decode cX7_entry 7 = .ok (.invokevirtual 121, 3) := by decide +kernel
theorem dX7_entry_10 : decode cX7_entry 10 = .ok (.ifCond .ne 5, 3) := by decide +kernel
theorem dX7_entry_13 : decode cX7_entry 13 = .ok (.iconst (-1), 1) := by decide +kernel
theorem dX7_entry_14 : decode cX7_entry 14 = .ok (.ireturn, 1) := by decide +kernel
theorem dX7_entry_15 : decode cX7_entry 15 = .ok (.aload_n 0, 1) := by decide +kernel
theorem dX7_entry_16 : decode cX7_entry 16 = .ok (.getfield 50, 3) := by decide +kernel
theorem dX7_entry_19 : decode cX7_entry 19 = .ok (.iload_n 1, 1) := by decide +kernel
theorem dX7_entry_20 : decode cX7_entry 20 = .ok (.baload, 1) := by decide +kernel
theorem dX7_entry_21 : decode cX7_entry 21 = .ok (.ifCond .ne 6, 3) := by decide +kernel
theorem dX7_entry_24 : decode cX7_entry 24 = .ok (.bipush (-3), 2) := by decide +kernel
theorem dX7_entry_26 : decode cX7_entry 26 = .ok (.ireturn, 1) := by decide +kernel
theorem dX7_entry_27 : decode cX7_entry 27 = .ok (.iload_n 2, 1) := by decide +kernel
theorem dX7_entry_28 : decode cX7_entry 28 = .ok (.i2l, 1) := by decide +kernel
theorem dX7_entry_29 : decode cX7_entry 29 = .ok (.lconst 0, 1) := by decide +kernel
theorem dX7_entry_30 : decode cX7_entry 30 = .ok (.ldc2_w 170, 3) := by decide +kernel
theorem dX7_entry_33 : decode cX7_entry 33 = .ok (.invokestatic 149, 3) := by decide +kernel
theorem dX7_entry_36 : decode cX7_entry 36 = .ok (.ifCond .eq 15, 3) := by decide +kernel
theorem dX7_entry_39 : decode cX7_entry 39 = .ok (.iload_n 3, 1) := by decide +kernel
theorem dX7_entry_40 : decode cX7_entry 40 = .ok (.i2l, 1) := by decide +kernel
theorem dX7_entry_41 : decode cX7_entry 41 = .ok (.lconst 1, 1) := by decide +kernel
theorem dX7_entry_42 : decode cX7_entry 42 = .ok (.ldc2_w 172, 3) := by decide +kernel
theorem dX7_entry_45 : decode cX7_entry 45 = .ok (.invokestatic 149, 3) := by decide +kernel
theorem dX7_entry_48 : decode cX7_entry 48 = .ok (.ifCond .ne 6, 3) := by decide +kernel
theorem dX7_entry_51 : decode cX7_entry 51 = .ok (.bipush (-2), 2) := by decide +kernel
theorem dX7_entry_53 : decode cX7_entry 53 = .ok (.ireturn, 1) := by decide +kernel
theorem dX7_entry_54 : decode cX7_entry 54 = .ok (.aload_n 0, 1) := by decide +kernel
theorem dX7_entry_55 : decode cX7_entry 55 = .ok (.iload_n 1, 1) := by decide +kernel
theorem dX7_entry_56 : decode cX7_entry 56 = .ok (.invokevirtual 167, 3) := by decide +kernel
theorem dX7_entry_59 : decode cX7_entry 59 = .ok (.istore 5, 2) := by decide +kernel
theorem dX7_entry_61 : decode cX7_entry 61 = .ok (.iload 5, 2) := by decide +kernel
theorem dX7_entry_63 : decode cX7_entry 63 = .ok (.iload_n 3, 1) := by decide +kernel
theorem dX7_entry_64 : decode cX7_entry 64 = .ok (.iadd, 1) := by decide +kernel
theorem dX7_entry_65 : decode cX7_entry 65 = .ok (.aload_n 0, 1) := by decide +kernel
theorem dX7_entry_66 : decode cX7_entry 66 = .ok (.iload_n 1, 1) := by decide +kernel
theorem dX7_entry_67 : decode cX7_entry 67 = .ok (.invokevirtual 174, 3) := by decide +kernel
theorem dX7_entry_70 : decode cX7_entry 70 = .ok (.if_icmp .le 5, 3) := by decide +kernel
theorem dX7_entry_73 : decode cX7_entry 73 = .ok (.iconst (-1), 1) := by decide +kernel
theorem dX7_entry_74 : decode cX7_entry 74 = .ok (.ireturn, 1) := by decide +kernel
theorem dX7_entry_75 : decode cX7_entry 75 = .ok (.iload 4, 2) := by decide +kernel
theorem dX7_entry_77 : decode cX7_entry 77 = .ok (.ifCond .eq 7, 3) := by decide +kernel
theorem dX7_entry_80 : decode cX7_entry 80 = .ok (.iconst 0, 1) := by decide +kernel
theorem dX7_entry_81 : decode cX7_entry 81 = .ok (.goto 42, 3) := by decide +kernel
theorem dX7_entry_84 : decode cX7_entry 84 = .ok (.aload_n 0, 1) := by decide +kernel
theorem dX7_entry_85 : decode cX7_entry 85 = .ok (.getfield 26, 3) := by decide +kernel
theorem dX7_entry_88 : decode cX7_entry 88 = .ok (.bipush 12, 2) := by decide +kernel
theorem dX7_entry_90 : decode cX7_entry 90 = .ok (.iload_n 1, 1) := by decide +kernel
theorem dX7_entry_91 : decode cX7_entry 91 = .ok (.imul, 1) := by decide +kernel
theorem dX7_entry_92 : decode cX7_entry 92 = .ok (.aload_n 0, 1) := by decide +kernel
theorem dX7_entry_93 : decode cX7_entry 93 = .ok (.iload_n 1, 1) := by decide +kernel
theorem dX7_entry_94 : decode cX7_entry 94 = .ok (.iload 5, 2) := by decide +kernel
theorem dX7_entry_96 : decode cX7_entry 96 = .ok (.invokevirtual 177, 3) := by decide +kernel
theorem dX7_entry_99 : decode cX7_entry 99 = .ok (.iadd, 1) := by decide +kernel
theorem dX7_entry_100 : decode cX7_entry 100 = .ok (.iaload, 1) := by decide +kernel
theorem dX7_entry_101 : decode cX7_entry 101 = .ok (.aload_n 0, 1) := by decide +kernel
theorem dX7_entry_102 : decode cX7_entry 102 = .ok (.getfield 29, 3) := by decide +kernel
theorem dX7_entry_105 : decode cX7_entry 105 = .ok (.bipush 12, 2) := by decide +kernel
theorem dX7_entry_107 : decode cX7_entry 107 = .ok (.iload_n 1, 1) := by decide +kernel
theorem dX7_entry_108 : decode cX7_entry 108 = .ok (.imul, 1) := by decide +kernel
theorem dX7_entry_109 : decode cX7_entry 109 = .ok (.aload_n 0, 1) := by decide +kernel
theorem dX7_entry_110 : decode cX7_entry 110 = .ok (.iload_n 1, 1) := by decide +kernel
theorem dX7_entry_111 : decode cX7_entry 111 = .ok (.iload 5, 2) := by decide +kernel
theorem dX7_entry_113 : decode cX7_entry 113 = .ok (.iload_n 3, 1) := by decide +kernel
theorem dX7_entry_114 : decode cX7_entry 114 = .ok (.iadd, 1) := by decide +kernel
theorem dX7_entry_115 : decode cX7_entry 115 = .ok (.iconst 1, 1) := by decide +kernel
theorem dX7_entry_116 : decode cX7_entry 116 = .ok (.isub, 1) := by decide +kernel
theorem dX7_entry_117 : decode cX7_entry 117 = .ok (.invokevirtual 177, 3) := by decide +kernel
theorem dX7_entry_120 : decode cX7_entry 120 = .ok (.iadd, 1) := by decide +kernel
theorem dX7_entry_121 : decode cX7_entry 121 = .ok (.iaload, 1) := by decide +kernel
theorem dX7_entry_122 : decode cX7_entry 122 = .ok (.iadd, 1) := by decide +kernel
theorem dX7_entry_123 : decode cX7_entry 123 = .ok (.istore 6, 2) := by decide +kernel
theorem dX7_entry_125 : decode cX7_entry 125 = .ok (.aload_n 0, 1) := by decide +kernel
theorem dX7_entry_126 : decode cX7_entry 126 = .ok (.iload_n 1, 1) := by decide +kernel
theorem dX7_entry_127 : decode cX7_entry 127 = .ok (.iload_n 2, 1) := by decide +kernel
theorem dX7_entry_128 : decode cX7_entry 128 = .ok (.iload 6, 2) := by decide +kernel
theorem dX7_entry_130 : decode cX7_entry 130 = .ok (.iadd, 1) := by decide +kernel
theorem dX7_entry_131 : decode cX7_entry 131 = .ok (.iload_n 3, 1) := by decide +kernel
theorem dX7_entry_132 : decode cX7_entry 132 = .ok (.invokevirtual 180, 3) := by decide +kernel
theorem dX7_entry_135 : decode cX7_entry 135 = .ok (.ireturn, 1) := by decide +kernel
theorem dX7_nest_0 : decode cX7_nest 0 = .ok (.aload_n 0, 1) := by decide +kernel
theorem dX7_nest_1 : decode cX7_nest 1 = .ok (.iconst 0, 1) := by decide +kernel
theorem dX7_nest_2 : decode cX7_nest 2 = .ok (.putfield 114, 3) := by decide +kernel
theorem dX7_nest_5 : decode cX7_nest 5 = .ok (.aload_n 0, 1) := by decide +kernel
theorem dX7_nest_6 : decode cX7_nest 6 = .ok (.iload_n 1, 1) := by decide +kernel
theorem dX7_nest_7 : decode cX7_nest 7 = .ok (.invokevirtual 121, 3) := by decide +kernel
theorem dX7_nest_10 : decode cX7_nest 10 = .ok (.ifCond .eq 11, 3) := by decide +kernel
theorem dX7_nest_13 : decode cX7_nest 13 = .ok (.aload_n 0, 1) := by decide +kernel
theorem dX7_nest_14 : decode cX7_nest 14 = .ok (.iload_n 2, 1) := by decide +kernel
theorem dX7_nest_15 : decode cX7_nest 15 = .ok (.invokevirtual 121, 3) := by decide +kernel
theorem dX7_nest_18 : decode cX7_nest 18 = .ok (.ifCond .ne 5, 3) := by decide +kernel
theorem dX7_nest_21 : decode cX7_nest 21 = .ok (.iconst (-1), 1) := by decide +kernel
theorem dX7_nest_22 : decode cX7_nest 22 = .ok (.ireturn, 1) := by decide +kernel
theorem dX7_nest_23 : decode cX7_nest 23 = .ok (.aload_n 0, 1) := by decide +kernel
theorem dX7_nest_24 : decode cX7_nest 24 = .ok (.getfield 50, 3) := by decide +kernel
theorem dX7_nest_27 : decode cX7_nest 27 = .ok (.iload_n 1, 1) := by decide +kernel
theorem dX7_nest_28 : decode cX7_nest 28 = .ok (.baload, 1) := by decide +kernel
theorem dX7_nest_29 : decode cX7_nest 29 = .ok (.ifCond .eq 33, 3) := by decide +kernel
theorem dX7_nest_32 : decode cX7_nest 32 = .ok (.iload_n 1, 1) := by decide +kernel
theorem dX7_nest_33 : decode cX7_nest 33 = .ok (.iload_n 2, 1) := by decide +kernel
theorem dX7_nest_34 : decode cX7_nest 34 = .ok (.if_icmp .eq 28, 3) := by decide +kernel
theorem dX7_nest_37 : decode cX7_nest 37 = .ok (.aload_n 0, 1) := by decide +kernel
theorem dX7_nest_38 : decode cX7_nest 38 = .ok (.getfield 80, 3) := by decide +kernel
theorem dX7_nest_41 : decode cX7_nest 41 = .ok (.iload_n 2, 1) := by decide +kernel
theorem dX7_nest_42 : decode cX7_nest 42 = .ok (.iaload, 1) := by decide +kernel
theorem dX7_nest_43 : decode cX7_nest 43 = .ok (.ifCond .eq 19, 3) := by decide +kernel
theorem dX7_nest_46 : decode cX7_nest 46 = .ok (.aload_n 0, 1) := by decide +kernel
theorem dX7_nest_47 : decode cX7_nest 47 = .ok (.getfield 99, 3) := by decide +kernel
theorem dX7_nest_50 : decode cX7_nest 50 = .ok (.iload_n 2, 1) := by decide +kernel
theorem dX7_nest_51 : decode cX7_nest 51 = .ok (.laload, 1) := by decide +kernel
theorem dX7_nest_52 : decode cX7_nest 52 = .ok (.lconst 0, 1) := by decide +kernel
theorem dX7_nest_53 : decode cX7_nest 53 = .ok (.ldc2_w 170, 3) := by decide +kernel
theorem dX7_nest_56 : decode cX7_nest 56 = .ok (.invokestatic 149, 3) := by decide +kernel
theorem dX7_nest_59 : decode cX7_nest 59 = .ok (.ifCond .ne 6, 3) := by decide +kernel
theorem dX7_nest_62 : decode cX7_nest 62 = .ok (.bipush (-3), 2) := by decide +kernel
theorem dX7_nest_64 : decode cX7_nest 64 = .ok (.ireturn, 1) := by decide +kernel
theorem dX7_nest_65 : decode cX7_nest 65 = .ok (.iload_n 3, 1) := by decide +kernel
theorem dX7_nest_66 : decode cX7_nest 66 = .ok (.i2l, 1) := by decide +kernel
theorem dX7_nest_67 : decode cX7_nest 67 = .ok (.lconst 1, 1) := by decide +kernel
theorem dX7_nest_68 : decode cX7_nest 68 = .ok (.ldc2_w 172, 3) := by decide +kernel
theorem dX7_nest_71 : decode cX7_nest 71 = .ok (.invokestatic 149, 3) := by decide +kernel
theorem dX7_nest_74 : decode cX7_nest 74 = .ok (.ifCond .ne 6, 3) := by decide +kernel
theorem dX7_nest_77 : decode cX7_nest 77 = .ok (.bipush (-2), 2) := by decide +kernel
theorem dX7_nest_79 : decode cX7_nest 79 = .ok (.ireturn, 1) := by decide +kernel
theorem dX7_nest_80 : decode cX7_nest 80 = .ok (.aload_n 0, 1) := by decide +kernel
theorem dX7_nest_81 : decode cX7_nest 81 = .ok (.iload_n 1, 1) := by decide +kernel
theorem dX7_nest_82 : decode cX7_nest 82 = .ok (.invokevirtual 167, 3) := by decide +kernel
theorem dX7_nest_85 : decode cX7_nest 85 = .ok (.iload_n 3, 1) := by decide +kernel
theorem dX7_nest_86 : decode cX7_nest 86 = .ok (.iadd, 1) := by decide +kernel
theorem dX7_nest_87 : decode cX7_nest 87 = .ok (.aload_n 0, 1) := by decide +kernel
theorem dX7_nest_88 : decode cX7_nest 88 = .ok (.iload_n 1, 1) := by decide +kernel
theorem dX7_nest_89 : decode cX7_nest 89 = .ok (.invokevirtual 174, 3) := by decide +kernel
theorem dX7_nest_92 : decode cX7_nest 92 = .ok (.if_icmp .le 7, 3) := by decide +kernel
theorem dX7_nest_95 : decode cX7_nest 95 = .ok (.iconst (-1), 1) := by decide +kernel
theorem dX7_nest_96 : decode cX7_nest 96 = .ok (.goto 16, 3) := by decide +kernel
theorem dX7_nest_99 : decode cX7_nest 99 = .ok (.aload_n 0, 1) := by decide +kernel
theorem dX7_nest_100 : decode cX7_nest 100 = .ok (.iload_n 1, 1) := by decide +kernel
theorem dX7_nest_101 : decode cX7_nest 101 = .ok (.aload_n 0, 1) := by decide +kernel
theorem dX7_nest_102 : decode cX7_nest 102 = .ok (.getfield 99, 3) := by decide +kernel
theorem dX7_nest_105 : decode cX7_nest 105 = .ok (.iload_n 2, 1) := by decide +kernel
theorem dX7_nest_106 : decode cX7_nest 106 = .ok (.laload, 1) := by decide +kernel
theorem dX7_nest_107 : decode cX7_nest 107 = .ok (.l2i, 1) := by decide +kernel
theorem dX7_nest_108 : decode cX7_nest 108 = .ok (.iload_n 3, 1) := by decide +kernel
theorem dX7_nest_109 : decode cX7_nest 109 = .ok (.invokevirtual 180, 3) := by decide +kernel
theorem dX7_nest_112 : decode cX7_nest 112 = .ok (.ireturn, 1) := by decide +kernel
theorem dX7_end_0 : decode cX7_end 0 = .ok (.aload_n 0, 1) := by decide +kernel
theorem dX7_end_1 : decode cX7_end 1 = .ok (.iconst 0, 1) := by decide +kernel
theorem dX7_end_2 : decode cX7_end 2 = .ok (.putfield 114, 3) := by decide +kernel
theorem dX7_end_5 : decode cX7_end 5 = .ok (.aload_n 0, 1) := by decide +kernel
theorem dX7_end_6 : decode cX7_end 6 = .ok (.iload_n 1, 1) := by decide +kernel
theorem dX7_end_7 : decode cX7_end 7 = .ok (.invokevirtual 121, 3) := by decide +kernel
theorem dX7_end_10 : decode cX7_end 10 = .ok (.ifCond .ne 5, 3) := by decide +kernel
theorem dX7_end_13 : decode cX7_end 13 = .ok (.iconst (-1), 1) := by decide +kernel
end
section
theorem dX7_end_14 : decode cX7_end 14 = .ok (.ireturn, 1) := by decide +kernel
theorem dX7_end_15 : decode cX7_end 15 = .ok (.aload_n 0, 1) := by decide +kernel
theorem dX7_end_16 : decode cX7_end 16 = .ok (.getfield 50, 3) := by decide +kernel
theorem dX7_end_19 : decode cX7_end 19 = .ok (.iload_n 1, 1) := by decide +kernel
theorem dX7_end_20 : decode cX7_end 20 = .ok (.baload, 1) := by decide +kernel
theorem dX7_end_21 : decode cX7_end 21 = .ok (.ifCond .ne 6, 3) := by decide +kernel
theorem dX7_end_24 : decode cX7_end 24 = .ok (.bipush (-3), 2) := by decide +kernel
theorem dX7_end_26 : decode cX7_end 26 = .ok (.ireturn, 1) := by decide +kernel
theorem dX7_end_27 : decode cX7_end 27 = .ok (.aload_n 0, 1) := by decide +kernel
theorem dX7_end_28 : decode cX7_end 28 = .ok (.getfield 50, 3) := by decide +kernel
theorem dX7_end_31 : decode cX7_end 31 = .ok (.iload_n 1, 1) := by decide +kernel
theorem dX7_end_32 : decode cX7_end 32 = .ok (.iconst 0, 1) := by decide +kernel
theorem dX7_end_33 : decode cX7_end 33 = .ok (.bastore, 1) := by decide +kernel
theorem dX7_end_34 : decode cX7_end 34 = .ok (.aload_n 0, 1) := by decide +kernel
theorem dX7_end_35 : decode cX7_end 35 = .ok (.getfield 56, 3) := by decide +kernel
theorem dX7_end_38 : decode cX7_end 38 = .ok (.bipush 20, 2) := by decide +kernel
theorem dX7_end_40 : decode cX7_end 40 = .ok (.iload_n 1, 1) := by decide +kernel
theorem dX7_end_41 : decode cX7_end 41 = .ok (.imul, 1) := by decide +kernel
theorem dX7_end_42 : decode cX7_end 42 = .ok (.aload_n 0, 1) := by decide +kernel
theorem dX7_end_43 : decode cX7_end 43 = .ok (.getfield 47, 3) := by decide +kernel
theorem dX7_end_46 : decode cX7_end 46 = .ok (.iload_n 1, 1) := by decide +kernel
theorem dX7_end_47 : decode cX7_end 47 = .ok (.iaload, 1) := by decide +kernel
theorem dX7_end_48 : decode cX7_end 48 = .ok (.iadd, 1) := by decide +kernel
theorem dX7_end_49 : decode cX7_end 49 = .ok (.iconst 1, 1) := by decide +kernel
theorem dX7_end_50 : decode cX7_end 50 = .ok (.isub, 1) := by decide +kernel
theorem dX7_end_51 : decode cX7_end 51 = .ok (.iaload, 1) := by decide +kernel
theorem dX7_end_52 : decode cX7_end 52 = .ok (.ireturn, 1) := by decide +kernel
theorem dX7_between_0 : decode cX7_between 0 = .ok (.aload_n 0, 1) := by decide +kernel
theorem dX7_between_1 : decode cX7_between 1 = .ok (.iconst 0, 1) := by decide +kernel
theorem dX7_between_2 : decode cX7_between 2 = .ok (.putfield 114, 3) := by decide +kernel
theorem dX7_between_5 : decode cX7_between 5 = .ok (.aload_n 0, 1) := by decide +kernel
theorem dX7_between_6 : decode cX7_between 6 = .ok (.iload_n 1, 1) := by decide +kernel
theorem dX7_between_7 : decode cX7_between 7 = .ok (.invokevirtual 121, 3) := by decide +kernel
theorem dX7_between_10 : decode cX7_between 10 = .ok (.ifCond .ne 5, 3) := by decide +kernel
theorem dX7_between_13 : decode cX7_between 13 = .ok (.iconst (-1), 1) := by decide +kernel
theorem dX7_between_14 : decode cX7_between 14 = .ok (.ireturn, 1) := by decide +kernel
theorem dX7_between_15 : decode cX7_between 15 = .ok (.aload_n 0, 1) := by decide +kernel
theorem dX7_between_16 : decode cX7_between 16 = .ok (.getfield 16, 3) := by decide +kernel
theorem dX7_between_19 : decode cX7_between 19 = .ok (.iload_n 1, 1) := by decide +kernel
theorem dX7_between_20 : decode cX7_between 20 = .ok (.baload, 1) := by decide +kernel
theorem dX7_between_21 : decode cX7_between 21 = .ok (.ifCond .eq 12, 3) := by decide +kernel
theorem dX7_between_24 : decode cX7_between 24 = .ok (.aload_n 0, 1) := by decide +kernel
theorem dX7_between_25 : decode cX7_between 25 = .ok (.getfield 50, 3) := by decide +kernel
theorem dX7_between_28 : decode cX7_between 28 = .ok (.iload_n 1, 1) := by decide +kernel
theorem dX7_between_29 : decode cX7_between 29 = .ok (.baload, 1) := by decide +kernel
theorem dX7_between_30 : decode cX7_between 30 = .ok (.ifCond .eq 6, 3) := by decide +kernel
theorem dX7_between_33 : decode cX7_between 33 = .ok (.bipush (-3), 2) := by decide +kernel
theorem dX7_between_35 : decode cX7_between 35 = .ok (.ireturn, 1) := by decide +kernel
theorem dX7_between_36 : decode cX7_between 36 = .ok (.aload_n 0, 1) := by decide +kernel
theorem dX7_between_37 : decode cX7_between 37 = .ok (.getfield 77, 3) := by decide +kernel
theorem dX7_between_40 : decode cX7_between 40 = .ok (.iload_n 1, 1) := by decide +kernel
theorem dX7_between_41 : decode cX7_between 41 = .ok (.iaload, 1) := by decide +kernel
theorem dX7_between_42 : decode cX7_between 42 = .ok (.bipush 20, 2) := by decide +kernel
theorem dX7_between_44 : decode cX7_between 44 = .ok (.if_icmp .ne 6, 3) := by decide +kernel
theorem dX7_between_47 : decode cX7_between 47 = .ok (.bipush (-4), 2) := by decide +kernel
theorem dX7_between_49 : decode cX7_between 49 = .ok (.ireturn, 1) := by decide +kernel
theorem dX7_between_50 : decode cX7_between 50 = .ok (.aload_n 0, 1) := by decide +kernel
theorem dX7_between_51 : decode cX7_between 51 = .ok (.iload_n 1, 1) := by decide +kernel
theorem dX7_between_52 : decode cX7_between 52 = .ok (.iconst (-1), 1) := by decide +kernel
theorem dX7_between_53 : decode cX7_between 53 = .ok (.aload_n 0, 1) := by decide +kernel
theorem dX7_between_54 : decode cX7_between 54 = .ok (.getfield 77, 3) := by decide +kernel
theorem dX7_between_57 : decode cX7_between 57 = .ok (.iload_n 1, 1) := by decide +kernel
theorem dX7_between_58 : decode cX7_between 58 = .ok (.iaload, 1) := by decide +kernel
theorem dX7_between_59 : decode cX7_between 59 = .ok (.isub, 1) := by decide +kernel
theorem dX7_between_60 : decode cX7_between 60 = .ok (.invokevirtual 163, 3) := by decide +kernel
theorem dX7_between_63 : decode cX7_between 63 = .ok (.aload_n 0, 1) := by decide +kernel
theorem dX7_between_64 : decode cX7_between 64 = .ok (.getfield 77, 3) := by decide +kernel
theorem dX7_between_67 : decode cX7_between 67 = .ok (.iload_n 1, 1) := by decide +kernel
theorem dX7_between_68 : decode cX7_between 68 = .ok (.dup2, 1) := by decide +kernel
theorem dX7_between_69 : decode cX7_between 69 = .ok (.iaload, 1) := by decide +kernel
theorem dX7_between_70 : decode cX7_between 70 = .ok (.iconst 1, 1) := by decide +kernel
theorem dX7_between_71 : decode cX7_between 71 = .ok (.iadd, 1) := by decide +kernel
theorem dX7_between_72 : decode cX7_between 72 = .ok (.iastore, 1) := by decide +kernel
theorem dX7_between_73 : decode cX7_between 73 = .ok (.aload_n 0, 1) := by decide +kernel
theorem dX7_between_74 : decode cX7_between 74 = .ok (.getfield 77, 3) := by decide +kernel
theorem dX7_between_77 : decode cX7_between 77 = .ok (.iload_n 1, 1) := by decide +kernel
theorem dX7_between_78 : decode cX7_between 78 = .ok (.iaload, 1) := by decide +kernel
theorem dX7_between_79 : decode cX7_between 79 = .ok (.ireturn, 1) := by decide +kernel
theorem dX7_glueBehind_0 : decode cX7_glueBehind 0 = .ok (.bipush 13, 2) := by decide +kernel
theorem dX7_glueBehind_2 : decode cX7_glueBehind 2 = .ok (.iload_n 1, 1) := by decide +kernel
theorem dX7_glueBehind_3 : decode cX7_glueBehind 3 = .ok (.imul, 1) := by decide +kernel
theorem dX7_glueBehind_4 : decode cX7_glueBehind 4 = .ok (.iconst 1, 1) := by decide +kernel
theorem dX7_glueBehind_5 : decode cX7_glueBehind 5 = .ok (.iadd, 1) := by decide +kernel
theorem dX7_glueBehind_6 : decode cX7_glueBehind 6 = .ok (.aload_n 0, 1) := by decide +kernel
theorem dX7_glueBehind_7 : decode cX7_glueBehind 7 = .ok (.iload_n 1, 1) := by decide +kernel
theorem dX7_glueBehind_8 : decode cX7_glueBehind 8 = .ok (.iload_n 2, 1) := by decide +kernel
theorem dX7_glueBehind_9 : decode cX7_glueBehind 9 = .ok (.invokevirtual 177, 3) := by decide +kernel
theorem dX7_glueBehind_12 : decode cX7_glueBehind 12 = .ok (.iadd, 1) := by decide +kernel
theorem dX7_glueBehind_13 : decode cX7_glueBehind 13 = .ok (.ireturn, 1) := by decide +kernel
theorem dX7_findWidths_0 : decode cX7_findWidths 0 = .ok (.iconst 0, 1) := by decide +kernel
theorem dX7_findWidths_1 : decode cX7_findWidths 1 = .ok (.istore_n 2, 1) := by decide +kernel
theorem dX7_findWidths_2 : decode cX7_findWidths 2 = .ok (.iload_n 2, 1) := by decide +kernel
theorem dX7_findWidths_3 : decode cX7_findWidths 3 = .ok (.aload_n 0, 1) := by decide +kernel
theorem dX7_findWidths_4 : decode cX7_findWidths 4 = .ok (.getfield 59, 3) := by decide +kernel
theorem dX7_findWidths_7 : decode cX7_findWidths 7 = .ok (.iload_n 1, 1) := by decide +kernel
theorem dX7_findWidths_8 : decode cX7_findWidths 8 = .ok (.iaload, 1) := by decide +kernel
theorem dX7_findWidths_9 : decode cX7_findWidths 9 = .ok (.if_icmp .ge 45, 3) := by decide +kernel
theorem dX7_findWidths_12 : decode cX7_findWidths 12 = .ok (.aload_n 0, 1) := by decide +kernel
theorem dX7_findWidths_13 : decode cX7_findWidths 13 = .ok (.getfield 108, 3) := by decide +kernel
theorem dX7_findWidths_16 : decode cX7_findWidths 16 = .ok (.iload_n 2, 1) := by decide +kernel
theorem dX7_findWidths_17 : decode cX7_findWidths 17 = .ok (.aload_n 0, 1) := by decide +kernel
theorem dX7_findWidths_18 : decode cX7_findWidths 18 = .ok (.getfield 62, 3) := by decide +kernel
theorem dX7_findWidths_21 : decode cX7_findWidths 21 = .ok (.sipush 480, 3) := by decide +kernel
theorem dX7_findWidths_24 : decode cX7_findWidths 24 = .ok (.iload_n 1, 1) := by decide +kernel
theorem dX7_findWidths_25 : decode cX7_findWidths 25 = .ok (.imul, 1) := by decide +kernel
theorem dX7_findWidths_26 : decode cX7_findWidths 26 = .ok (.iload_n 2, 1) := by decide +kernel
theorem dX7_findWidths_27 : decode cX7_findWidths 27 = .ok (.iadd, 1) := by decide +kernel
theorem dX7_findWidths_28 : decode cX7_findWidths 28 = .ok (.iaload, 1) := by decide +kernel
theorem dX7_findWidths_29 : decode cX7_findWidths 29 = .ok (.iastore, 1) := by decide +kernel
theorem dX7_findWidths_30 : decode cX7_findWidths 30 = .ok (.aload_n 0, 1) := by decide +kernel
theorem dX7_findWidths_31 : decode cX7_findWidths 31 = .ok (.getfield 111, 3) := by decide +kernel
theorem dX7_findWidths_34 : decode cX7_findWidths 34 = .ok (.iload_n 2, 1) := by decide +kernel
theorem dX7_findWidths_35 : decode cX7_findWidths 35 = .ok (.aload_n 0, 1) := by decide +kernel
theorem dX7_findWidths_36 : decode cX7_findWidths 36 = .ok (.getfield 65, 3) := by decide +kernel
theorem dX7_findWidths_39 : decode cX7_findWidths 39 = .ok (.sipush 480, 3) := by decide +kernel
theorem dX7_findWidths_42 : decode cX7_findWidths 42 = .ok (.iload_n 1, 1) := by decide +kernel
theorem dX7_findWidths_43 : decode cX7_findWidths 43 = .ok (.imul, 1) := by decide +kernel
theorem dX7_findWidths_44 : decode cX7_findWidths 44 = .ok (.iload_n 2, 1) := by decide +kernel
theorem dX7_findWidths_45 : decode cX7_findWidths 45 = .ok (.iadd, 1) := by decide +kernel
theorem dX7_findWidths_46 : decode cX7_findWidths 46 = .ok (.iaload, 1) := by decide +kernel
theorem dX7_findWidths_47 : decode cX7_findWidths 47 = .ok (.iastore, 1) := by decide +kernel
theorem dX7_findWidths_48 : decode cX7_findWidths 48 = .ok (.iinc 2 1, 3) := by decide +kernel
theorem dX7_findWidths_51 : decode cX7_findWidths 51 = .ok (.goto (-49), 3) := by decide +kernel
theorem dX7_findWidths_54 : decode cX7_findWidths 54 = .ok (.iconst 0, 1) := by decide +kernel
theorem dX7_findWidths_55 : decode cX7_findWidths 55 = .ok (.istore_n 2, 1) := by decide +kernel
theorem dX7_findWidths_56 : decode cX7_findWidths 56 = .ok (.iload_n 2, 1) := by decide +kernel
theorem dX7_findWidths_57 : decode cX7_findWidths 57 = .ok (.aload_n 0, 1) := by decide +kernel
theorem dX7_findWidths_58 : decode cX7_findWidths 58 = .ok (.getfield 83, 3) := by decide +kernel
theorem dX7_findWidths_61 : decode cX7_findWidths 61 = .ok (.iload_n 1, 1) := by decide +kernel
theorem dX7_findWidths_62 : decode cX7_findWidths 62 = .ok (.iaload, 1) := by decide +kernel
theorem dX7_findWidths_63 : decode cX7_findWidths 63 = .ok (.if_icmp .ge 276, 3) := by decide +kernel
theorem dX7_findWidths_66 : decode cX7_findWidths 66 = .ok (.iconst (-1), 1) := by decide +kernel
theorem dX7_findWidths_67 : decode cX7_findWidths 67 = .ok (.istore_n 3, 1) := by decide +kernel
theorem dX7_findWidths_68 : decode cX7_findWidths 68 = .ok (.iconst 0, 1) := by decide +kernel
theorem dX7_findWidths_69 : decode cX7_findWidths 69 = .ok (.istore 4, 2) := by decide +kernel
theorem dX7_findWidths_71 : decode cX7_findWidths 71 = .ok (.iload 4, 2) := by decide +kernel
theorem dX7_findWidths_73 : decode cX7_findWidths 73 = .ok (.aload_n 0, 1) := by decide +kernel
theorem dX7_findWidths_74 : decode cX7_findWidths 74 = .ok (.getfield 59, 3) := by decide +kernel
theorem dX7_findWidths_77 : decode cX7_findWidths 77 = .ok (.iload_n 1, 1) := by decide +kernel
theorem dX7_findWidths_78 : decode cX7_findWidths 78 = .ok (.iaload, 1) := by decide +kernel
theorem dX7_findWidths_79 : decode cX7_findWidths 79 = .ok (.if_icmp .ge 80, 3) := by decide +kernel
theorem dX7_findWidths_82 : decode cX7_findWidths 82 = .ok (.aload_n 0, 1) := by decide +kernel
theorem dX7_findWidths_83 : decode cX7_findWidths 83 = .ok (.getfield 65, 3) := by decide +kernel
theorem dX7_findWidths_86 : decode cX7_findWidths 86 = .ok (.sipush 480, 3) := by decide +kernel
theorem dX7_findWidths_89 : decode cX7_findWidths 89 = .ok (.iload_n 1, 1) := by decide +kernel
theorem dX7_findWidths_90 : decode cX7_findWidths 90 = .ok (.imul, 1) := by decide +kernel
theorem dX7_findWidths_91 : decode cX7_findWidths 91 = .ok (.iload 4, 2) := by decide +kernel
theorem dX7_findWidths_93 : decode cX7_findWidths 93 = .ok (.iadd, 1) := by decide +kernel
theorem dX7_findWidths_94 : decode cX7_findWidths 94 = .ok (.iaload, 1) := by decide +kernel
theorem dX7_findWidths_95 : decode cX7_findWidths 95 = .ok (.aload_n 0, 1) := by decide +kernel
theorem dX7_findWidths_96 : decode cX7_findWidths 96 = .ok (.getfield 68, 3) := by decide +kernel
theorem dX7_findWidths_99 : decode cX7_findWidths 99 = .ok (.sipush 480, 3) := by decide +kernel
theorem dX7_findWidths_102 : decode cX7_findWidths 102 = .ok (.iload_n 1, 1) := by decide +kernel
theorem dX7_findWidths_103 : decode cX7_findWidths 103 = .ok (.imul, 1) := by decide +kernel
theorem dX7_findWidths_104 : decode cX7_findWidths 104 = .ok (.iload 4, 2) := by decide +kernel
theorem dX7_findWidths_106 : decode cX7_findWidths 106 = .ok (.iadd, 1) := by decide +kernel
theorem dX7_findWidths_107 : decode cX7_findWidths 107 = .ok (.iaload, 1) := by decide +kernel
theorem dX7_findWidths_108 : decode cX7_findWidths 108 = .ok (.iadd, 1) := by decide +kernel
theorem dX7_findWidths_109 : decode cX7_findWidths 109 = .ok (.iconst 1, 1) := by decide +kernel
theorem dX7_findWidths_110 : decode cX7_findWidths 110 = .ok (.isub, 1) := by decide +kernel
theorem dX7_findWidths_111 : decode cX7_findWidths 111 = .ok (.istore 5, 2) := by decide +kernel
theorem dX7_findWidths_113 : decode cX7_findWidths 113 = .ok (.aload_n 0, 1) := by decide +kernel
theorem dX7_findWidths_114 : decode cX7_findWidths 114 = .ok (.getfield 111, 3) := by decide +kernel
theorem dX7_findWidths_117 : decode cX7_findWidths 117 = .ok (.iload 4, 2) := by decide +kernel
theorem dX7_findWidths_119 : decode cX7_findWidths 119 = .ok (.iaload, 1) := by decide +kernel
theorem dX7_findWidths_120 : decode cX7_findWidths 120 = .ok (.iload_n 2, 1) := by decide +kernel
theorem dX7_findWidths_121 : decode cX7_findWidths 121 = .ok (.if_icmp .ne 30, 3) := by decide +kernel
theorem dX7_findWidths_124 : decode cX7_findWidths 124 = .ok (.iload 5, 2) := by decide +kernel
theorem dX7_findWidths_126 : decode cX7_findWidths 126 = .ok (.iload_n 2, 1) := by decide +kernel
theorem dX7_findWidths_127 : decode cX7_findWidths 127 = .ok (.if_icmp .ne 24, 3) := by decide +kernel
theorem dX7_findWidths_130 : decode cX7_findWidths 130 = .ok (.aload_n 0, 1) := by decide +kernel
theorem dX7_findWidths_131 : decode cX7_findWidths 131 = .ok (.getfield 108, 3) := by decide +kernel
theorem dX7_findWidths_134 : decode cX7_findWidths 134 = .ok (.iload 4, 2) := by decide +kernel
theorem dX7_findWidths_136 : decode cX7_findWidths 136 = .ok (.iaload, 1) := by decide +kernel
theorem dX7_findWidths_137 : decode cX7_findWidths 137 = .ok (.iload_n 3, 1) := by decide +kernel
theorem dX7_findWidths_138 : decode cX7_findWidths 138 = .ok (.if_icmp .le 13, 3) := by decide +kernel
theorem dX7_findWidths_141 : decode cX7_findWidths 141 = .ok (.aload_n 0, 1) := by decide +kernel
theorem dX7_findWidths_142 : decode cX7_findWidths 142 = .ok (.getfield 108, 3) := by decide +kernel
theorem dX7_findWidths_145 : decode cX7_findWidths 145 = .ok (.iload 4, 2) := by decide +kernel
theorem dX7_findWidths_147 : decode cX7_findWidths 147 = .ok (.iaload, 1) := by decide +kernel
theorem dX7_findWidths_148 : decode cX7_findWidths 148 = .ok (.goto 4, 3) := by decide +kernel
theorem dX7_findWidths_151 : decode cX7_findWidths 151 = .ok (.iload_n 3, 1) := by decide +kernel
theorem dX7_findWidths_152 : decode cX7_findWidths 152 = .ok (.istore_n 3, 1) := by decide +kernel
theorem dX7_findWidths_153 : decode cX7_findWidths 153 = .ok (.iinc 4 1, 3) := by decide +kernel
theorem dX7_findWidths_156 : decode cX7_findWidths 156 = .ok (.goto (-85), 3) := by decide +kernel
theorem dX7_findWidths_159 : decode cX7_findWidths 159 = .ok (.aload_n 0, 1) := by decide +kernel
theorem dX7_findWidths_160 : decode cX7_findWidths 160 = .ok (.getfield 89, 3) := by decide +kernel
theorem dX7_findWidths_163 : decode cX7_findWidths 163 = .ok (.bipush 24, 2) := by decide +kernel
theorem dX7_findWidths_165 : decode cX7_findWidths 165 = .ok (.iload_n 1, 1) := by decide +kernel
theorem dX7_findWidths_166 : decode cX7_findWidths 166 = .ok (.imul, 1) := by decide +kernel
theorem dX7_findWidths_167 : decode cX7_findWidths 167 = .ok (.iload_n 2, 1) := by decide +kernel
theorem dX7_findWidths_168 : decode cX7_findWidths 168 = .ok (.iadd, 1) := by decide +kernel
theorem dX7_findWidths_169 : decode cX7_findWidths 169 = .ok (.iload_n 3, 1) := by decide +kernel
theorem dX7_findWidths_170 : decode cX7_findWidths 170 = .ok (.ifCond .ge 7, 3) := by decide +kernel
theorem dX7_findWidths_173 : decode cX7_findWidths 173 = .ok (.iconst 1, 1) := by decide +kernel
theorem dX7_findWidths_174 : decode cX7_findWidths 174 = .ok (.goto 4, 3) := by decide +kernel
theorem dX7_findWidths_177 : decode cX7_findWidths 177 = .ok (.iconst 0, 1) := by decide +kernel
theorem dX7_findWidths_178 : decode cX7_findWidths 178 = .ok (.bastore, 1) := by decide +kernel
theorem dX7_findWidths_179 : decode cX7_findWidths 179 = .ok (.aload_n 0, 1) := by decide +kernel
theorem dX7_findWidths_180 : decode cX7_findWidths 180 = .ok (.getfield 86, 3) := by decide +kernel
theorem dX7_findWidths_183 : decode cX7_findWidths 183 = .ok (.bipush 24, 2) := by decide +kernel
theorem dX7_findWidths_185 : decode cX7_findWidths 185 = .ok (.iload_n 1, 1) := by decide +kernel
theorem dX7_findWidths_186 : decode cX7_findWidths 186 = .ok (.imul, 1) := by decide +kernel
theorem dX7_findWidths_187 : decode cX7_findWidths 187 = .ok (.iload_n 2, 1) := by decide +kernel
theorem dX7_findWidths_188 : decode cX7_findWidths 188 = .ok (.iadd, 1) := by decide +kernel
theorem dX7_findWidths_189 : decode cX7_findWidths 189 = .ok (.iload_n 3, 1) := by decide +kernel
theorem dX7_findWidths_190 : decode cX7_findWidths 190 = .ok (.ifCond .ge 7, 3) := by decide +kernel
theorem dX7_findWidths_193 : decode cX7_findWidths 193 = .ok (.iconst 0, 1) := by decide +kernel
theorem dX7_findWidths_194 : decode cX7_findWidths 194 = .ok (.goto 4, 3) := by decide +kernel
theorem dX7_findWidths_197 : decode cX7_findWidths 197 = .ok (.iload_n 3, 1) := by decide +kernel
theorem dX7_findWidths_198 : decode cX7_findWidths 198 = .ok (.iastore, 1) := by decide +kernel
theorem dX7_findWidths_199 : decode cX7_findWidths 199 = .ok (.iload_n 3, 1) := by decide +kernel
theorem dX7_findWidths_200 : decode cX7_findWidths 200 = .ok (.ifCond .ge 7, 3) := by decide +kernel
theorem dX7_findWidths_203 : decode cX7_findWidths 203 = .ok (.iconst 0, 1) := by decide +kernel
theorem dX7_findWidths_204 : decode cX7_findWidths 204 = .ok (.goto 16, 3) := by decide +kernel
theorem dX7_findWidths_207 : decode cX7_findWidths 207 = .ok (.iload_n 3, 1) := by decide +kernel
theorem dX7_findWidths_208 : decode cX7_findWidths 208 = .ok (.aload_n 0, 1) := by decide +kernel
theorem dX7_findWidths_209 : decode cX7_findWidths 209 = .ok (.getfield 32, 3) := by decide +kernel
theorem dX7_findWidths_212 : decode cX7_findWidths 212 = .ok (.aload_n 0, 1) := by decide +kernel
theorem dX7_findWidths_213 : decode cX7_findWidths 213 = .ok (.iload_n 1, 1) := by decide +kernel
theorem dX7_findWidths_214 : decode cX7_findWidths 214 = .ok (.iload_n 2, 1) := by decide +kernel
theorem dX7_findWidths_215 : decode cX7_findWidths 215 = .ok (.invokevirtual 184, 3) := by decide +kernel
theorem dX7_findWidths_218 : decode cX7_findWidths 218 = .ok (.iaload, 1) := by decide +kernel
theorem dX7_findWidths_219 : decode cX7_findWidths 219 = .ok (.iadd, 1) := by decide +kernel
theorem dX7_findWidths_220 : decode cX7_findWidths 220 = .ok (.istore 4, 2) := by decide +kernel
theorem dX7_findWidths_222 : decode cX7_findWidths 222 = .ok (.iconst 0, 1) := by decide +kernel
theorem dX7_findWidths_223 : decode cX7_findWidths 223 = .ok (.istore 5, 2) := by decide +kernel
theorem dX7_findWidths_225 : decode cX7_findWidths 225 = .ok (.iload 5, 2) := by decide +kernel
theorem dX7_findWidths_227 : decode cX7_findWidths 227 = .ok (.aload_n 0, 1) := by decide +kernel
theorem dX7_findWidths_228 : decode cX7_findWidths 228 = .ok (.getfield 59, 3) := by decide +kernel
theorem dX7_findWidths_231 : decode cX7_findWidths 231 = .ok (.iload_n 1, 1) := by decide +kernel
theorem dX7_findWidths_232 : decode cX7_findWidths 232 = .ok (.iaload, 1) := by decide +kernel
theorem dX7_findWidths_233 : decode cX7_findWidths 233 = .ok (.if_icmp .ge 100, 3) := by decide +kernel
theorem dX7_findWidths_236 : decode cX7_findWidths 236 = .ok (.aload_n 0, 1) := by decide +kernel
theorem dX7_findWidths_237 : decode cX7_findWidths 237 = .ok (.getfield 65, 3) := by decide +kernel
theorem dX7_findWidths_240 : decode cX7_findWidths 240 = .ok (.sipush 480, 3) := by decide +kernel
theorem dX7_findWidths_243 : decode cX7_findWidths 243 = .ok (.iload_n 1, 1) := by decide +kernel
theorem dX7_findWidths_244 : decode cX7_findWidths 244 = .ok (.imul, 1) := by decide +kernel
theorem dX7_findWidths_245 : decode cX7_findWidths 245 = .ok (.iload 5, 2) := by decide +kernel
theorem dX7_findWidths_247 : decode cX7_findWidths 247 = .ok (.iadd, 1) := by decide +kernel
theorem dX7_findWidths_248 : decode cX7_findWidths 248 = .ok (.iaload, 1) := by decide +kernel
theorem dX7_findWidths_249 : decode cX7_findWidths 249 = .ok (.aload_n 0, 1) := by decide +kernel
theorem dX7_findWidths_250 : decode cX7_findWidths 250 = .ok (.getfield 68, 3) := by decide +kernel
theorem dX7_findWidths_253 : decode cX7_findWidths 253 = .ok (.sipush 480, 3) := by decide +kernel
theorem dX7_findWidths_256 : decode cX7_findWidths 256 = .ok (.iload_n 1, 1) := by decide +kernel
theorem dX7_findWidths_257 : decode cX7_findWidths 257 = .ok (.imul, 1) := by decide +kernel
theorem dX7_findWidths_258 : decode cX7_findWidths 258 = .ok (.iload 5, 2) := by decide +kernel
theorem dX7_findWidths_260 : decode cX7_findWidths 260 = .ok (.iadd, 1) := by decide +kernel
theorem dX7_findWidths_261 : decode cX7_findWidths 261 = .ok (.iaload, 1) := by decide +kernel
theorem dX7_findWidths_262 : decode cX7_findWidths 262 = .ok (.iadd, 1) := by decide +kernel
theorem dX7_findWidths_263 : decode cX7_findWidths 263 = .ok (.iconst 1, 1) := by decide +kernel
theorem dX7_findWidths_264 : decode cX7_findWidths 264 = .ok (.isub, 1) := by decide +kernel
theorem dX7_findWidths_265 : decode cX7_findWidths 265 = .ok (.istore 6, 2) := by decide +kernel
theorem dX7_findWidths_267 : decode cX7_findWidths 267 = .ok (.aload_n 0, 1) := by decide +kernel
theorem dX7_findWidths_268 : decode cX7_findWidths 268 = .ok (.getfield 111, 3) := by decide +kernel
theorem dX7_findWidths_271 : decode cX7_findWidths 271 = .ok (.iload 5, 2) := by decide +kernel
theorem dX7_findWidths_273 : decode cX7_findWidths 273 = .ok (.iaload, 1) := by decide +kernel
theorem dX7_findWidths_274 : decode cX7_findWidths 274 = .ok (.iload_n 2, 1) := by decide +kernel
theorem dX7_findWidths_275 : decode cX7_findWidths 275 = .ok (.if_icmp .ne 52, 3) := by decide +kernel
theorem dX7_findWidths_278 : decode cX7_findWidths 278 = .ok (.iload 6, 2) := by decide +kernel
theorem dX7_findWidths_280 : decode cX7_findWidths 280 = .ok (.iload_n 2, 1) := by decide +kernel
theorem dX7_findWidths_281 : decode cX7_findWidths 281 = .ok (.if_icmp .le 46, 3) := by decide +kernel
theorem dX7_findWidths_284 : decode cX7_findWidths 284 = .ok (.aload_n 0, 1) := by decide +kernel
theorem dX7_findWidths_285 : decode cX7_findWidths 285 = .ok (.getfield 108, 3) := by decide +kernel
theorem dX7_findWidths_288 : decode cX7_findWidths 288 = .ok (.iload 5, 2) := by decide +kernel
theorem dX7_findWidths_290 : decode cX7_findWidths 290 = .ok (.aload_n 0, 1) := by decide +kernel
theorem dX7_findWidths_291 : decode cX7_findWidths 291 = .ok (.getfield 108, 3) := by decide +kernel
theorem dX7_findWidths_294 : decode cX7_findWidths 294 = .ok (.iload 5, 2) := by decide +kernel
theorem dX7_findWidths_296 : decode cX7_findWidths 296 = .ok (.iaload, 1) := by decide +kernel
theorem dX7_findWidths_297 : decode cX7_findWidths 297 = .ok (.iload 4, 2) := by decide +kernel
theorem dX7_findWidths_299 : decode cX7_findWidths 299 = .ok (.if_icmp .le 16, 3) := by decide +kernel
theorem dX7_findWidths_302 : decode cX7_findWidths 302 = .ok (.aload_n 0, 1) := by decide +kernel
theorem dX7_findWidths_303 : decode cX7_findWidths 303 = .ok (.getfield 108, 3) := by decide +kernel
theorem dX7_findWidths_306 : decode cX7_findWidths 306 = .ok (.iload 5, 2) := by decide +kernel
theorem dX7_findWidths_308 : decode cX7_findWidths 308 = .ok (.iaload, 1) := by decide +kernel
theorem dX7_findWidths_309 : decode cX7_findWidths 309 = .ok (.iload 4, 2) := by decide +kernel
theorem dX7_findWidths_311 : decode cX7_findWidths 311 = .ok (.isub, 1) := by decide +kernel
theorem dX7_findWidths_312 : decode cX7_findWidths 312 = .ok (.goto 4, 3) := by decide +kernel
theorem dX7_findWidths_315 : decode cX7_findWidths 315 = .ok (.iconst 0, 1) := by decide +kernel
theorem dX7_findWidths_316 : decode cX7_findWidths 316 = .ok (.iastore, 1) := by decide +kernel
theorem dX7_findWidths_317 : decode cX7_findWidths 317 = .ok (.aload_n 0, 1) := by decide +kernel
theorem dX7_findWidths_318 : decode cX7_findWidths 318 = .ok (.getfield 111, 3) := by decide +kernel
theorem dX7_findWidths_321 : decode cX7_findWidths 321 = .ok (.iload 5, 2) := by decide +kernel
theorem dX7_findWidths_323 : decode cX7_findWidths 323 = .ok (.iload_n 2, 1) := by decide +kernel
theorem dX7_findWidths_324 : decode cX7_findWidths 324 = .ok (.iconst 1, 1) := by decide +kernel
theorem dX7_findWidths_325 : decode cX7_findWidths 325 = .ok (.iadd, 1) := by decide +kernel
theorem dX7_findWidths_326 : decode cX7_findWidths 326 = .ok (.iastore, 1) := by decide +kernel
theorem dX7_findWidths_327 : decode cX7_findWidths 327 = .ok (.iinc 5 1, 3) := by decide +kernel
theorem dX7_findWidths_330 : decode cX7_findWidths 330 = .ok (.goto (-105), 3) := by decide +kernel
theorem dX7_findWidths_333 : decode cX7_findWidths 333 = .ok (.iinc 2 1, 3) := by decide +kernel
theorem dX7_findWidths_336 : decode cX7_findWidths 336 = .ok (.goto (-280), 3) := by decide +kernel
theorem dX7_findWidths_339 : decode cX7_findWidths 339 = .ok (.return_, 1) := by decide +kernel
theorem dX7_gives_0 : decode cX7_gives 0 = .ok (.iload_n 2, 1) := by decide +kernel
theorem dX7_gives_1 : decode cX7_gives 1 = .ok (.ifCond .le 21, 3) := by decide +kernel
theorem dX7_gives_4 : decode cX7_gives 4 = .ok (.aload_n 0, 1) := by decide +kernel
theorem dX7_gives_5 : decode cX7_gives 5 = .ok (.getfield 89, 3) := by decide +kernel
theorem dX7_gives_8 : decode cX7_gives 8 = .ok (.bipush 24, 2) := by decide +kernel
theorem dX7_gives_10 : decode cX7_gives 10 = .ok (.iload_n 1, 1) := by decide +kernel
theorem dX7_gives_11 : decode cX7_gives 11 = .ok (.imul, 1) := by decide +kernel
theorem dX7_gives_12 : decode cX7_gives 12 = .ok (.iload_n 2, 1) := by decide +kernel
theorem dX7_gives_13 : decode cX7_gives 13 = .ok (.iadd, 1) := by decide +kernel
theorem dX7_gives_14 : decode cX7_gives 14 = .ok (.iconst 1, 1) := by decide +kernel
theorem dX7_gives_15 : decode cX7_gives 15 = .ok (.isub, 1) := by decide +kernel
theorem dX7_gives_16 : decode cX7_gives 16 = .ok (.baload, 1) := by decide +kernel
theorem dX7_gives_17 : decode cX7_gives 17 = .ok (.ifCond .eq 5, 3) := by decide +kernel
theorem dX7_gives_20 : decode cX7_gives 20 = .ok (.lconst 0, 1) := by decide +kernel
theorem dX7_gives_21 : decode cX7_gives 21 = .ok (.lreturn, 1) := by decide +kernel
theorem dX7_gives_22 : decode cX7_gives 22 = .ok (.iload_n 2, 1) := by decide +kernel
theorem dX7_gives_23 : decode cX7_gives 23 = .ok (.ifCond .ne 10, 3) := by decide +kernel
theorem dX7_gives_26 : decode cX7_gives 26 = .ok (.bipush 13, 2) := by decide +kernel
theorem dX7_gives_28 : decode cX7_gives 28 = .ok (.iload_n 1, 1) := by decide +kernel
theorem dX7_gives_29 : decode cX7_gives 29 = .ok (.imul, 1) := by decide +kernel
theorem dX7_gives_30 : decode cX7_gives 30 = .ok (.goto 11, 3) := by decide +kernel
theorem dX7_gives_33 : decode cX7_gives 33 = .ok (.aload_n 0, 1) := by decide +kernel
theorem dX7_gives_34 : decode cX7_gives 34 = .ok (.iload_n 1, 1) := by decide +kernel
theorem dX7_gives_35 : decode cX7_gives 35 = .ok (.iload_n 2, 1) := by decide +kernel
theorem dX7_gives_36 : decode cX7_gives 36 = .ok (.iconst 1, 1) := by decide +kernel
theorem dX7_gives_37 : decode cX7_gives 37 = .ok (.isub, 1) := by decide +kernel
theorem dX7_gives_38 : decode cX7_gives 38 = .ok (.invokevirtual 184, 3) := by decide +kernel
theorem dX7_gives_41 : decode cX7_gives 41 = .ok (.istore 5, 2) := by decide +kernel
theorem dX7_gives_43 : decode cX7_gives 43 = .ok (.iload_n 3, 1) := by decide +kernel
theorem dX7_gives_44 : decode cX7_gives 44 = .ok (.ifCond .eq 30, 3) := by decide +kernel
theorem dX7_gives_47 : decode cX7_gives 47 = .ok (.aload_n 0, 1) := by decide +kernel
theorem dX7_gives_48 : decode cX7_gives 48 = .ok (.getfield 38, 3) := by decide +kernel
theorem dX7_gives_51 : decode cX7_gives 51 = .ok (.iload 5, 2) := by decide +kernel
theorem dX7_gives_53 : decode cX7_gives 53 = .ok (.iaload, 1) := by decide +kernel
theorem dX7_gives_54 : decode cX7_gives 54 = .ok (.iload 4, 2) := by decide +kernel
theorem dX7_gives_56 : decode cX7_gives 56 = .ok (.if_icmp .ne 14, 3) := by decide +kernel
theorem dX7_gives_59 : decode cX7_gives 59 = .ok (.aload_n 0, 1) := by decide +kernel
theorem dX7_gives_60 : decode cX7_gives 60 = .ok (.getfield 35, 3) := by decide +kernel
theorem dX7_gives_63 : decode cX7_gives 63 = .ok (.iload 5, 2) := by decide +kernel
theorem dX7_gives_65 : decode cX7_gives 65 = .ok (.iaload, 1) := by decide +kernel
theorem dX7_gives_66 : decode cX7_gives 66 = .ok (.i2l, 1) := by decide +kernel
theorem dX7_gives_67 : decode cX7_gives 67 = .ok (.goto 31, 3) := by decide +kernel
theorem dX7_gives_70 : decode cX7_gives 70 = .ok (.lconst 0, 1) := by decide +kernel
theorem dX7_gives_71 : decode cX7_gives 71 = .ok (.goto 27, 3) := by decide +kernel
theorem dX7_gives_74 : decode cX7_gives 74 = .ok (.aload_n 0, 1) := by decide +kernel
theorem dX7_gives_75 : decode cX7_gives 75 = .ok (.getfield 44, 3) := by decide +kernel
theorem dX7_gives_78 : decode cX7_gives 78 = .ok (.iload 5, 2) := by decide +kernel
theorem dX7_gives_80 : decode cX7_gives 80 = .ok (.iaload, 1) := by decide +kernel
theorem dX7_gives_81 : decode cX7_gives 81 = .ok (.iload 4, 2) := by decide +kernel
theorem dX7_gives_83 : decode cX7_gives 83 = .ok (.if_icmp .ne 14, 3) := by decide +kernel
theorem dX7_gives_86 : decode cX7_gives 86 = .ok (.aload_n 0, 1) := by decide +kernel
theorem dX7_gives_87 : decode cX7_gives 87 = .ok (.getfield 41, 3) := by decide +kernel
theorem dX7_gives_90 : decode cX7_gives 90 = .ok (.iload 5, 2) := by decide +kernel
theorem dX7_gives_92 : decode cX7_gives 92 = .ok (.iaload, 1) := by decide +kernel
theorem dX7_gives_93 : decode cX7_gives 93 = .ok (.i2l, 1) := by decide +kernel
theorem dX7_gives_94 : decode cX7_gives 94 = .ok (.goto 4, 3) := by decide +kernel
theorem dX7_gives_97 : decode cX7_gives 97 = .ok (.lconst 0, 1) := by decide +kernel
theorem dX7_gives_98 : decode cX7_gives 98 = .ok (.lreturn, 1) := by decide +kernel
theorem dX7_sumOf_0 : decode cX7_sumOf 0 = .ok (.lconst 0, 1) := by decide +kernel
theorem dX7_sumOf_1 : decode cX7_sumOf 1 = .ok (.lstore 5, 2) := by decide +kernel
theorem dX7_sumOf_3 : decode cX7_sumOf 3 = .ok (.iconst 0, 1) := by decide +kernel
theorem dX7_sumOf_4 : decode cX7_sumOf 4 = .ok (.istore 7, 2) := by decide +kernel
theorem dX7_sumOf_6 : decode cX7_sumOf 6 = .ok (.iload 7, 2) := by decide +kernel
theorem dX7_sumOf_8 : decode cX7_sumOf 8 = .ok (.iload_n 2, 1) := by decide +kernel
theorem dX7_sumOf_9 : decode cX7_sumOf 9 = .ok (.if_icmp .ge 24, 3) := by decide +kernel
theorem dX7_sumOf_12 : decode cX7_sumOf 12 = .ok (.lload 5, 2) := by decide +kernel
theorem dX7_sumOf_14 : decode cX7_sumOf 14 = .ok (.aload_n 0, 1) := by decide +kernel
theorem dX7_sumOf_15 : decode cX7_sumOf 15 = .ok (.iload_n 1, 1) := by decide +kernel
theorem dX7_sumOf_16 : decode cX7_sumOf 16 = .ok (.iload 7, 2) := by decide +kernel
theorem dX7_sumOf_18 : decode cX7_sumOf 18 = .ok (.iload_n 3, 1) := by decide +kernel
theorem dX7_sumOf_19 : decode cX7_sumOf 19 = .ok (.iload 4, 2) := by decide +kernel
theorem dX7_sumOf_21 : decode cX7_sumOf 21 = .ok (.invokevirtual 187, 3) := by decide +kernel
theorem dX7_sumOf_24 : decode cX7_sumOf 24 = .ok (.ladd, 1) := by decide +kernel
theorem dX7_sumOf_25 : decode cX7_sumOf 25 = .ok (.lstore 5, 2) := by decide +kernel
theorem dX7_sumOf_27 : decode cX7_sumOf 27 = .ok (.iinc 7 1, 3) := by decide +kernel
theorem dX7_sumOf_30 : decode cX7_sumOf 30 = .ok (.goto (-24), 3) := by decide +kernel
theorem dX7_sumOf_33 : decode cX7_sumOf 33 = .ok (.lload 5, 2) := by decide +kernel
theorem dX7_sumOf_35 : decode cX7_sumOf 35 = .ok (.lreturn, 1) := by decide +kernel
theorem dX7_widthOfGlue_0 : decode cX7_widthOfGlue 0 = .ok (.iload_n 2, 1) := by decide +kernel
theorem dX7_widthOfGlue_1 : decode cX7_widthOfGlue 1 = .ok (.ifCond .ne 16, 3) := by decide +kernel
theorem dX7_widthOfGlue_4 : decode cX7_widthOfGlue 4 = .ok (.aload_n 0, 1) := by decide +kernel
theorem dX7_widthOfGlue_5 : decode cX7_widthOfGlue 5 = .ok (.getfield 32, 3) := by decide +kernel
theorem dX7_widthOfGlue_8 : decode cX7_widthOfGlue 8 = .ok (.bipush 13, 2) := by decide +kernel
theorem dX7_widthOfGlue_10 : decode cX7_widthOfGlue 10 = .ok (.iload_n 1, 1) := by decide +kernel
theorem dX7_widthOfGlue_11 : decode cX7_widthOfGlue 11 = .ok (.imul, 1) := by decide +kernel
theorem dX7_widthOfGlue_12 : decode cX7_widthOfGlue 12 = .ok (.iaload, 1) := by decide +kernel
theorem dX7_widthOfGlue_13 : decode cX7_widthOfGlue 13 = .ok (.i2l, 1) := by decide +kernel
theorem dX7_widthOfGlue_14 : decode cX7_widthOfGlue 14 = .ok (.goto 37, 3) := by decide +kernel
theorem dX7_widthOfGlue_17 : decode cX7_widthOfGlue 17 = .ok (.aload_n 0, 1) := by decide +kernel
theorem dX7_widthOfGlue_18 : decode cX7_widthOfGlue 18 = .ok (.getfield 89, 3) := by decide +kernel
theorem dX7_widthOfGlue_21 : decode cX7_widthOfGlue 21 = .ok (.bipush 24, 2) := by decide +kernel
theorem dX7_widthOfGlue_23 : decode cX7_widthOfGlue 23 = .ok (.iload_n 1, 1) := by decide +kernel
theorem dX7_widthOfGlue_24 : decode cX7_widthOfGlue 24 = .ok (.imul, 1) := by decide +kernel
theorem dX7_widthOfGlue_25 : decode cX7_widthOfGlue 25 = .ok (.iload_n 2, 1) := by decide +kernel
theorem dX7_widthOfGlue_26 : decode cX7_widthOfGlue 26 = .ok (.iadd, 1) := by decide +kernel
theorem dX7_widthOfGlue_27 : decode cX7_widthOfGlue 27 = .ok (.iconst 1, 1) := by decide +kernel
theorem dX7_widthOfGlue_28 : decode cX7_widthOfGlue 28 = .ok (.isub, 1) := by decide +kernel
theorem dX7_widthOfGlue_29 : decode cX7_widthOfGlue 29 = .ok (.baload, 1) := by decide +kernel
theorem dX7_widthOfGlue_30 : decode cX7_widthOfGlue 30 = .ok (.ifCond .eq 7, 3) := by decide +kernel
theorem dX7_widthOfGlue_33 : decode cX7_widthOfGlue 33 = .ok (.lconst 0, 1) := by decide +kernel
theorem dX7_widthOfGlue_34 : decode cX7_widthOfGlue 34 = .ok (.goto 17, 3) := by decide +kernel
theorem dX7_widthOfGlue_37 : decode cX7_widthOfGlue 37 = .ok (.aload_n 0, 1) := by decide +kernel
theorem dX7_widthOfGlue_38 : decode cX7_widthOfGlue 38 = .ok (.getfield 32, 3) := by decide +kernel
theorem dX7_widthOfGlue_41 : decode cX7_widthOfGlue 41 = .ok (.aload_n 0, 1) := by decide +kernel
theorem dX7_widthOfGlue_42 : decode cX7_widthOfGlue 42 = .ok (.iload_n 1, 1) := by decide +kernel
theorem dX7_widthOfGlue_43 : decode cX7_widthOfGlue 43 = .ok (.iload_n 2, 1) := by decide +kernel
theorem dX7_widthOfGlue_44 : decode cX7_widthOfGlue 44 = .ok (.iconst 1, 1) := by decide +kernel
theorem dX7_widthOfGlue_45 : decode cX7_widthOfGlue 45 = .ok (.isub, 1) := by decide +kernel
theorem dX7_widthOfGlue_46 : decode cX7_widthOfGlue 46 = .ok (.invokevirtual 184, 3) := by decide +kernel
theorem dX7_widthOfGlue_49 : decode cX7_widthOfGlue 49 = .ok (.iaload, 1) := by decide +kernel
theorem dX7_widthOfGlue_50 : decode cX7_widthOfGlue 50 = .ok (.i2l, 1) := by decide +kernel
theorem dX7_widthOfGlue_51 : decode cX7_widthOfGlue 51 = .ok (.lreturn, 1) := by decide +kernel
theorem dX7_run_0 : decode cX7_run 0 = .ok (.aload_n 0, 1) := by decide +kernel
theorem dX7_run_1 : decode cX7_run 1 = .ok (.iconst 0, 1) := by decide +kernel
theorem dX7_run_2 : decode cX7_run 2 = .ok (.putfield 114, 3) := by decide +kernel
theorem dX7_run_5 : decode cX7_run 5 = .ok (.aload_n 0, 1) := by decide +kernel
theorem dX7_run_6 : decode cX7_run 6 = .ok (.iload_n 1, 1) := by decide +kernel
theorem dX7_run_7 : decode cX7_run 7 = .ok (.invokevirtual 121, 3) := by decide +kernel
theorem dX7_run_10 : decode cX7_run 10 = .ok (.ifCond .ne 7, 3) := by decide +kernel
theorem dX7_run_13 : decode cX7_run 13 = .ok (.ldc2_w 191, 3) := by decide +kernel
theorem dX7_run_16 : decode cX7_run 16 = .ok (.lreturn, 1) := by decide +kernel
theorem dX7_run_17 : decode cX7_run 17 = .ok (.aload_n 0, 1) := by decide +kernel
theorem dX7_run_18 : decode cX7_run 18 = .ok (.getfield 16, 3) := by decide +kernel
theorem dX7_run_21 : decode cX7_run 21 = .ok (.iload_n 1, 1) := by decide +kernel
theorem dX7_run_22 : decode cX7_run 22 = .ok (.baload, 1) := by decide +kernel
theorem dX7_run_23 : decode cX7_run 23 = .ok (.ifCond .eq 12, 3) := by decide +kernel
theorem dX7_run_26 : decode cX7_run 26 = .ok (.aload_n 0, 1) := by decide +kernel
theorem dX7_run_27 : decode cX7_run 27 = .ok (.getfield 50, 3) := by decide +kernel
theorem dX7_run_30 : decode cX7_run 30 = .ok (.iload_n 1, 1) := by decide +kernel
theorem dX7_run_31 : decode cX7_run 31 = .ok (.baload, 1) := by decide +kernel
theorem dX7_run_32 : decode cX7_run 32 = .ok (.ifCond .eq 7, 3) := by decide +kernel
theorem dX7_run_35 : decode cX7_run 35 = .ok (.ldc2_w 193, 3) := by decide +kernel
theorem dX7_run_38 : decode cX7_run 38 = .ok (.lreturn, 1) := by decide +kernel
theorem dX7_run_39 : decode cX7_run 39 = .ok (.iload_n 2, 1) := by decide +kernel
theorem dX7_run_40 : decode cX7_run 40 = .ok (.i2l, 1) := by decide +kernel
theorem dX7_run_41 : decode cX7_run 41 = .ok (.lconst 0, 1) := by decide +kernel
theorem dX7_run_42 : decode cX7_run 42 = .ok (.ldc2_w 195, 3) := by decide +kernel
theorem dX7_run_45 : decode cX7_run 45 = .ok (.invokestatic 149, 3) := by decide +kernel
theorem dX7_run_48 : decode cX7_run 48 = .ok (.ifCond .eq 21, 3) := by decide +kernel
theorem dX7_run_51 : decode cX7_run 51 = .ok (.iload_n 2, 1) := by decide +kernel
theorem dX7_run_52 : decode cX7_run 52 = .ok (.ifCond .le 21, 3) := by decide +kernel
theorem dX7_run_55 : decode cX7_run 55 = .ok (.iload_n 3, 1) := by decide +kernel
theorem dX7_run_56 : decode cX7_run 56 = .ok (.i2l, 1) := by decide +kernel
theorem dX7_run_57 : decode cX7_run 57 = .ok (.ldc2_w 197, 3) := by decide +kernel
theorem dX7_run_60 : decode cX7_run 60 = .ok (.ldc2_w 199, 3) := by decide +kernel
theorem dX7_run_63 : decode cX7_run 63 = .ok (.invokestatic 149, 3) := by decide +kernel
theorem dX7_run_66 : decode cX7_run 66 = .ok (.ifCond .ne 7, 3) := by decide +kernel
theorem dX7_run_69 : decode cX7_run 69 = .ok (.ldc2_w 201, 3) := by decide +kernel
theorem dX7_run_72 : decode cX7_run 72 = .ok (.lreturn, 1) := by decide +kernel
theorem dX7_run_73 : decode cX7_run 73 = .ok (.aload_n 0, 1) := by decide +kernel
theorem dX7_run_74 : decode cX7_run 74 = .ok (.getfield 20, 3) := by decide +kernel
theorem dX7_run_77 : decode cX7_run 77 = .ok (.iload_n 1, 1) := by decide +kernel
theorem dX7_run_78 : decode cX7_run 78 = .ok (.iaload, 1) := by decide +kernel
theorem dX7_run_79 : decode cX7_run 79 = .ok (.istore 4, 2) := by decide +kernel
theorem dX7_run_81 : decode cX7_run 81 = .ok (.iconst 0, 1) := by decide +kernel
theorem dX7_run_82 : decode cX7_run 82 = .ok (.istore 5, 2) := by decide +kernel
theorem dX7_run_84 : decode cX7_run 84 = .ok (.iload 5, 2) := by decide +kernel
theorem dX7_run_86 : decode cX7_run 86 = .ok (.aload_n 0, 1) := by decide +kernel
theorem dX7_run_87 : decode cX7_run 87 = .ok (.getfield 59, 3) := by decide +kernel
theorem dX7_run_90 : decode cX7_run 90 = .ok (.iload_n 1, 1) := by decide +kernel
theorem dX7_run_91 : decode cX7_run 91 = .ok (.iaload, 1) := by decide +kernel
theorem dX7_run_92 : decode cX7_run 92 = .ok (.if_icmp .ge 54, 3) := by decide +kernel
theorem dX7_run_95 : decode cX7_run 95 = .ok (.aload_n 0, 1) := by decide +kernel
theorem dX7_run_96 : decode cX7_run 96 = .ok (.getfield 65, 3) := by decide +kernel
theorem dX7_run_99 : decode cX7_run 99 = .ok (.sipush 480, 3) := by decide +kernel
theorem dX7_run_102 : decode cX7_run 102 = .ok (.iload_n 1, 1) := by decide +kernel
theorem dX7_run_103 : decode cX7_run 103 = .ok (.imul, 1) := by decide +kernel
theorem dX7_run_104 : decode cX7_run 104 = .ok (.iload 5, 2) := by decide +kernel
theorem dX7_run_106 : decode cX7_run 106 = .ok (.iadd, 1) := by decide +kernel
theorem dX7_run_107 : decode cX7_run 107 = .ok (.iaload, 1) := by decide +kernel
theorem dX7_run_108 : decode cX7_run 108 = .ok (.aload_n 0, 1) := by decide +kernel
theorem dX7_run_109 : decode cX7_run 109 = .ok (.getfield 68, 3) := by decide +kernel
theorem dX7_run_112 : decode cX7_run 112 = .ok (.sipush 480, 3) := by decide +kernel
theorem dX7_run_115 : decode cX7_run 115 = .ok (.iload_n 1, 1) := by decide +kernel
theorem dX7_run_116 : decode cX7_run 116 = .ok (.imul, 1) := by decide +kernel
theorem dX7_run_117 : decode cX7_run 117 = .ok (.iload 5, 2) := by decide +kernel
theorem dX7_run_119 : decode cX7_run 119 = .ok (.iadd, 1) := by decide +kernel
theorem dX7_run_120 : decode cX7_run 120 = .ok (.iaload, 1) := by decide +kernel
theorem dX7_run_121 : decode cX7_run 121 = .ok (.iadd, 1) := by decide +kernel
theorem dX7_run_122 : decode cX7_run 122 = .ok (.istore 6, 2) := by decide +kernel
theorem dX7_run_124 : decode cX7_run 124 = .ok (.iload 6, 2) := by decide +kernel
theorem dX7_run_126 : decode cX7_run 126 = .ok (.iload 4, 2) := by decide +kernel
theorem dX7_run_128 : decode cX7_run 128 = .ok (.if_icmp .le 8, 3) := by decide +kernel
theorem dX7_run_131 : decode cX7_run 131 = .ok (.iload 6, 2) := by decide +kernel
theorem dX7_run_133 : decode cX7_run 133 = .ok (.goto 5, 3) := by decide +kernel
theorem dX7_run_136 : decode cX7_run 136 = .ok (.iload 4, 2) := by decide +kernel
theorem dX7_run_138 : decode cX7_run 138 = .ok (.istore 4, 2) := by decide +kernel
theorem dX7_run_140 : decode cX7_run 140 = .ok (.iinc 5 1, 3) := by decide +kernel
theorem dX7_run_143 : decode cX7_run 143 = .ok (.goto (-59), 3) := by decide +kernel
theorem dX7_run_146 : decode cX7_run 146 = .ok (.aload_n 0, 1) := by decide +kernel
theorem dX7_run_147 : decode cX7_run 147 = .ok (.getfield 83, 3) := by decide +kernel
theorem dX7_run_150 : decode cX7_run 150 = .ok (.iload_n 1, 1) := by decide +kernel
theorem dX7_run_151 : decode cX7_run 151 = .ok (.iload 4, 2) := by decide +kernel
theorem dX7_run_153 : decode cX7_run 153 = .ok (.iastore, 1) := by decide +kernel
theorem dX7_run_154 : decode cX7_run 154 = .ok (.aload_n 0, 1) := by decide +kernel
theorem dX7_run_155 : decode cX7_run 155 = .ok (.iload_n 1, 1) := by decide +kernel
theorem dX7_run_156 : decode cX7_run 156 = .ok (.invokevirtual 203, 3) := by decide +kernel
theorem dX7_run_159 : decode cX7_run 159 = .ok (.aload_n 0, 1) := by decide +kernel
theorem dX7_run_160 : decode cX7_run 160 = .ok (.getfield 96, 3) := by decide +kernel
theorem dX7_run_163 : decode cX7_run 163 = .ok (.iload_n 1, 1) := by decide +kernel
theorem dX7_run_164 : decode cX7_run 164 = .ok (.aload_n 0, 1) := by decide +kernel
theorem dX7_run_165 : decode cX7_run 165 = .ok (.iload_n 1, 1) := by decide +kernel
theorem dX7_run_166 : decode cX7_run 166 = .ok (.iconst 0, 1) := by decide +kernel
theorem dX7_run_167 : decode cX7_run 167 = .ok (.invokevirtual 206, 3) := by decide +kernel
theorem dX7_run_170 : decode cX7_run 170 = .ok (.lastore, 1) := by decide +kernel
theorem dX7_run_171 : decode cX7_run 171 = .ok (.iconst 0, 1) := by decide +kernel
theorem dX7_run_172 : decode cX7_run 172 = .ok (.istore 5, 2) := by decide +kernel
theorem dX7_run_174 : decode cX7_run 174 = .ok (.iload 5, 2) := by decide +kernel
theorem dX7_run_176 : decode cX7_run 176 = .ok (.iload 4, 2) := by decide +kernel
theorem dX7_run_178 : decode cX7_run 178 = .ok (.if_icmp .ge 45, 3) := by decide +kernel
theorem dX7_run_181 : decode cX7_run 181 = .ok (.aload_n 0, 1) := by decide +kernel
theorem dX7_run_182 : decode cX7_run 182 = .ok (.getfield 96, 3) := by decide +kernel
theorem dX7_run_185 : decode cX7_run 185 = .ok (.iload_n 1, 1) := by decide +kernel
theorem dX7_run_186 : decode cX7_run 186 = .ok (.aload_n 0, 1) := by decide +kernel
theorem dX7_run_187 : decode cX7_run 187 = .ok (.getfield 96, 3) := by decide +kernel
theorem dX7_run_190 : decode cX7_run 190 = .ok (.iload_n 1, 1) := by decide +kernel
theorem dX7_run_191 : decode cX7_run 191 = .ok (.laload, 1) := by decide +kernel
theorem dX7_run_192 : decode cX7_run 192 = .ok (.aload_n 0, 1) := by decide +kernel
theorem dX7_run_193 : decode cX7_run 193 = .ok (.getfield 86, 3) := by decide +kernel
theorem dX7_run_196 : decode cX7_run 196 = .ok (.bipush 24, 2) := by decide +kernel
theorem dX7_run_198 : decode cX7_run 198 = .ok (.iload_n 1, 1) := by decide +kernel
theorem dX7_run_199 : decode cX7_run 199 = .ok (.imul, 1) := by decide +kernel
theorem dX7_run_200 : decode cX7_run 200 = .ok (.iload 5, 2) := by decide +kernel
theorem dX7_run_202 : decode cX7_run 202 = .ok (.iadd, 1) := by decide +kernel
theorem dX7_run_203 : decode cX7_run 203 = .ok (.iaload, 1) := by decide +kernel
theorem dX7_run_204 : decode cX7_run 204 = .ok (.i2l, 1) := by decide +kernel
theorem dX7_run_205 : decode cX7_run 205 = .ok (.ladd, 1) := by decide +kernel
theorem dX7_run_206 : decode cX7_run 206 = .ok (.aload_n 0, 1) := by decide +kernel
theorem dX7_run_207 : decode cX7_run 207 = .ok (.iload_n 1, 1) := by decide +kernel
theorem dX7_run_208 : decode cX7_run 208 = .ok (.iload 5, 2) := by decide +kernel
theorem dX7_run_210 : decode cX7_run 210 = .ok (.iconst 1, 1) := by decide +kernel
theorem dX7_run_211 : decode cX7_run 211 = .ok (.iadd, 1) := by decide +kernel
theorem dX7_run_212 : decode cX7_run 212 = .ok (.invokevirtual 206, 3) := by decide +kernel
theorem dX7_run_215 : decode cX7_run 215 = .ok (.ladd, 1) := by decide +kernel
theorem dX7_run_216 : decode cX7_run 216 = .ok (.lastore, 1) := by decide +kernel
theorem dX7_run_217 : decode cX7_run 217 = .ok (.iinc 5 1, 3) := by decide +kernel
theorem dX7_run_220 : decode cX7_run 220 = .ok (.goto (-46), 3) := by decide +kernel
theorem dX7_run_223 : decode cX7_run 223 = .ok (.aload_n 0, 1) := by decide +kernel
theorem dX7_run_224 : decode cX7_run 224 = .ok (.getfield 99, 3) := by decide +kernel
theorem dX7_run_227 : decode cX7_run 227 = .ok (.iload_n 1, 1) := by decide +kernel
theorem dX7_run_228 : decode cX7_run 228 = .ok (.iload_n 2, 1) := by decide +kernel
theorem dX7_run_229 : decode cX7_run 229 = .ok (.ifCond .ne 12, 3) := by decide +kernel
theorem dX7_run_232 : decode cX7_run 232 = .ok (.aload_n 0, 1) := by decide +kernel
theorem dX7_run_233 : decode cX7_run 233 = .ok (.getfield 96, 3) := by decide +kernel
theorem dX7_run_236 : decode cX7_run 236 = .ok (.iload_n 1, 1) := by decide +kernel
theorem dX7_run_237 : decode cX7_run 237 = .ok (.laload, 1) := by decide +kernel
theorem dX7_run_238 : decode cX7_run 238 = .ok (.goto 22, 3) := by decide +kernel
theorem dX7_run_241 : decode cX7_run 241 = .ok (.iload_n 2, 1) := by decide +kernel
theorem dX7_run_242 : decode cX7_run 242 = .ok (.iconst 1, 1) := by decide +kernel
theorem dX7_run_243 : decode cX7_run 243 = .ok (.if_icmp .ne 8, 3) := by decide +kernel
theorem dX7_run_246 : decode cX7_run 246 = .ok (.iload_n 3, 1) := by decide +kernel
theorem dX7_run_247 : decode cX7_run 247 = .ok (.i2l, 1) := by decide +kernel
theorem dX7_run_248 : decode cX7_run 248 = .ok (.goto 12, 3) := by decide +kernel
theorem dX7_run_251 : decode cX7_run 251 = .ok (.aload_n 0, 1) := by decide +kernel
theorem dX7_run_252 : decode cX7_run 252 = .ok (.getfield 96, 3) := by decide +kernel
theorem dX7_run_255 : decode cX7_run 255 = .ok (.iload_n 1, 1) := by decide +kernel
theorem dX7_run_256 : decode cX7_run 256 = .ok (.laload, 1) := by decide +kernel
theorem dX7_run_257 : decode cX7_run 257 = .ok (.iload_n 3, 1) := by decide +kernel
theorem dX7_run_258 : decode cX7_run 258 = .ok (.i2l, 1) := by decide +kernel
theorem dX7_run_259 : decode cX7_run 259 = .ok (.ladd, 1) := by decide +kernel
theorem dX7_run_260 : decode cX7_run 260 = .ok (.lastore, 1) := by decide +kernel
theorem dX7_run_261 : decode cX7_run 261 = .ok (.aload_n 0, 1) := by decide +kernel
theorem dX7_run_262 : decode cX7_run 262 = .ok (.getfield 80, 3) := by decide +kernel
theorem dX7_run_265 : decode cX7_run 265 = .ok (.iload_n 1, 1) := by decide +kernel
theorem dX7_run_266 : decode cX7_run 266 = .ok (.dup2, 1) := by decide +kernel
theorem dX7_run_267 : decode cX7_run 267 = .ok (.iaload, 1) := by decide +kernel
theorem dX7_run_268 : decode cX7_run 268 = .ok (.iconst 1, 1) := by decide +kernel
theorem dX7_run_269 : decode cX7_run 269 = .ok (.iadd, 1) := by decide +kernel
theorem dX7_run_270 : decode cX7_run 270 = .ok (.iastore, 1) := by decide +kernel
theorem dX7_run_271 : decode cX7_run 271 = .ok (.aload_n 0, 1) := by decide +kernel
theorem dX7_run_272 : decode cX7_run 272 = .ok (.iload_n 1, 1) := by decide +kernel
theorem dX7_run_273 : decode cX7_run 273 = .ok (.invokevirtual 210, 3) := by decide +kernel
theorem dX7_run_276 : decode cX7_run 276 = .ok (.aload_n 0, 1) := by decide +kernel
theorem dX7_run_277 : decode cX7_run 277 = .ok (.getfield 99, 3) := by decide +kernel
theorem dX7_run_280 : decode cX7_run 280 = .ok (.iload_n 1, 1) := by decide +kernel
theorem dX7_run_281 : decode cX7_run 281 = .ok (.laload, 1) := by decide +kernel
theorem dX7_run_282 : decode cX7_run 282 = .ok (.lreturn, 1) := by decide +kernel
theorem dX7_share_0 : decode cX7_share 0 = .ok (.aload_n 0, 1) := by decide +kernel
theorem dX7_share_1 : decode cX7_share 1 = .ok (.getfield 83, 3) := by decide +kernel
theorem dX7_share_4 : decode cX7_share 4 = .ok (.iload_n 1, 1) := by decide +kernel
theorem dX7_share_5 : decode cX7_share 5 = .ok (.iaload, 1) := by decide +kernel
theorem dX7_share_6 : decode cX7_share 6 = .ok (.istore_n 2, 1) := by decide +kernel
theorem dX7_share_7 : decode cX7_share 7 = .ok (.aload_n 0, 1) := by decide +kernel
theorem dX7_share_8 : decode cX7_share 8 = .ok (.getfield 99, 3) := by decide +kernel
theorem dX7_share_11 : decode cX7_share 11 = .ok (.iload_n 1, 1) := by decide +kernel
theorem dX7_share_12 : decode cX7_share 12 = .ok (.laload, 1) := by decide +kernel
theorem dX7_share_13 : decode cX7_share 13 = .ok (.aload_n 0, 1) := by decide +kernel
theorem dX7_share_14 : decode cX7_share 14 = .ok (.getfield 96, 3) := by decide +kernel
theorem dX7_share_17 : decode cX7_share 17 = .ok (.iload_n 1, 1) := by decide +kernel
theorem dX7_share_18 : decode cX7_share 18 = .ok (.laload, 1) := by decide +kernel
theorem dX7_share_19 : decode cX7_share 19 = .ok (.lsub, 1) := by decide +kernel
theorem dX7_share_20 : decode cX7_share 20 = .ok (.lstore_n 3, 1) := by decide +kernel
theorem dX7_share_21 : decode cX7_share 21 = .ok (.lload_n 3, 1) := by decide +kernel
theorem dX7_share_22 : decode cX7_share 22 = .ok (.lconst 0, 1) := by decide +kernel
theorem dX7_share_23 : decode cX7_share 23 = .ok (.lcmp, 1) := by decide +kernel
theorem dX7_share_24 : decode cX7_share 24 = .ok (.ifCond .le 7, 3) := by decide +kernel
theorem dX7_share_27 : decode cX7_share 27 = .ok (.iconst 1, 1) := by decide +kernel
theorem dX7_share_28 : decode cX7_share 28 = .ok (.goto 4, 3) := by decide +kernel
theorem dX7_share_31 : decode cX7_share 31 = .ok (.iconst 0, 1) := by decide +kernel
theorem dX7_share_32 : decode cX7_share 32 = .ok (.istore 5, 2) := by decide +kernel
theorem dX7_share_34 : decode cX7_share 34 = .ok (.aload_n 0, 1) := by decide +kernel
theorem dX7_share_35 : decode cX7_share 35 = .ok (.getfield 102, 3) := by decide +kernel
theorem dX7_share_38 : decode cX7_share 38 = .ok (.iload_n 1, 1) := by decide +kernel
theorem dX7_share_39 : decode cX7_share 39 = .ok (.iconst (-1), 1) := by decide +kernel
theorem dX7_share_40 : decode cX7_share 40 = .ok (.iastore, 1) := by decide +kernel
theorem dX7_share_41 : decode cX7_share 41 = .ok (.iconst 0, 1) := by decide +kernel
theorem dX7_share_42 : decode cX7_share 42 = .ok (.istore 6, 2) := by decide +kernel
theorem dX7_share_44 : decode cX7_share 44 = .ok (.iload 6, 2) := by decide +kernel
theorem dX7_share_46 : decode cX7_share 46 = .ok (.iconst 4, 1) := by decide +kernel
theorem dX7_share_47 : decode cX7_share 47 = .ok (.if_icmp .ge 49, 3) := by decide +kernel
theorem dX7_share_50 : decode cX7_share 50 = .ok (.lload_n 3, 1) := by decide +kernel
theorem dX7_share_51 : decode cX7_share 51 = .ok (.lconst 0, 1) := by decide +kernel
theorem dX7_share_52 : decode cX7_share 52 = .ok (.lcmp, 1) := by decide +kernel
theorem dX7_share_53 : decode cX7_share 53 = .ok (.ifCond .eq 43, 3) := by decide +kernel
theorem dX7_share_56 : decode cX7_share 56 = .ok (.aload_n 0, 1) := by decide +kernel
theorem dX7_share_57 : decode cX7_share 57 = .ok (.getfield 102, 3) := by decide +kernel
theorem dX7_share_60 : decode cX7_share 60 = .ok (.iload_n 1, 1) := by decide +kernel
theorem dX7_share_61 : decode cX7_share 61 = .ok (.aload_n 0, 1) := by decide +kernel
theorem dX7_share_62 : decode cX7_share 62 = .ok (.iload_n 1, 1) := by decide +kernel
theorem dX7_share_63 : decode cX7_share 63 = .ok (.iload_n 2, 1) := by decide +kernel
theorem dX7_share_64 : decode cX7_share 64 = .ok (.iconst 1, 1) := by decide +kernel
theorem dX7_share_65 : decode cX7_share 65 = .ok (.iadd, 1) := by decide +kernel
theorem dX7_share_66 : decode cX7_share 66 = .ok (.iload 5, 2) := by decide +kernel
theorem dX7_share_68 : decode cX7_share 68 = .ok (.iload 6, 2) := by decide +kernel
theorem dX7_share_70 : decode cX7_share 70 = .ok (.invokevirtual 213, 3) := by decide +kernel
theorem dX7_share_73 : decode cX7_share 73 = .ok (.lconst 0, 1) := by decide +kernel
theorem dX7_share_74 : decode cX7_share 74 = .ok (.lcmp, 1) := by decide +kernel
theorem dX7_share_75 : decode cX7_share 75 = .ok (.ifCond .le 8, 3) := by decide +kernel
theorem dX7_share_78 : decode cX7_share 78 = .ok (.iload 6, 2) := by decide +kernel
theorem dX7_share_80 : decode cX7_share 80 = .ok (.goto 9, 3) := by decide +kernel
theorem dX7_share_83 : decode cX7_share 83 = .ok (.aload_n 0, 1) := by decide +kernel
theorem dX7_share_84 : decode cX7_share 84 = .ok (.getfield 102, 3) := by decide +kernel
theorem dX7_share_87 : decode cX7_share 87 = .ok (.iload_n 1, 1) := by decide +kernel
theorem dX7_share_88 : decode cX7_share 88 = .ok (.iaload, 1) := by decide +kernel
theorem dX7_share_89 : decode cX7_share 89 = .ok (.iastore, 1) := by decide +kernel
theorem dX7_share_90 : decode cX7_share 90 = .ok (.iinc 6 1, 3) := by decide +kernel
theorem dX7_share_93 : decode cX7_share 93 = .ok (.goto (-49), 3) := by decide +kernel
theorem dX7_share_96 : decode cX7_share 96 = .ok (.aload_n 0, 1) := by decide +kernel
theorem dX7_share_97 : decode cX7_share 97 = .ok (.getfield 102, 3) := by decide +kernel
theorem dX7_share_100 : decode cX7_share 100 = .ok (.iload_n 1, 1) := by decide +kernel
theorem dX7_share_101 : decode cX7_share 101 = .ok (.iaload, 1) := by decide +kernel
theorem dX7_share_102 : decode cX7_share 102 = .ok (.ifCond .ge 7, 3) := by decide +kernel
theorem dX7_share_105 : decode cX7_share 105 = .ok (.lconst 0, 1) := by decide +kernel
theorem dX7_share_106 : decode cX7_share 106 = .ok (.goto 19, 3) := by decide +kernel
theorem dX7_share_109 : decode cX7_share 109 = .ok (.aload_n 0, 1) := by decide +kernel
theorem dX7_share_110 : decode cX7_share 110 = .ok (.iload_n 1, 1) := by decide +kernel
theorem dX7_share_111 : decode cX7_share 111 = .ok (.iload_n 2, 1) := by decide +kernel
theorem dX7_share_112 : decode cX7_share 112 = .ok (.iconst 1, 1) := by decide +kernel
theorem dX7_share_113 : decode cX7_share 113 = .ok (.iadd, 1) := by decide +kernel
theorem dX7_share_114 : decode cX7_share 114 = .ok (.iload 5, 2) := by decide +kernel
theorem dX7_share_116 : decode cX7_share 116 = .ok (.aload_n 0, 1) := by decide +kernel
theorem dX7_share_117 : decode cX7_share 117 = .ok (.getfield 102, 3) := by decide +kernel
theorem dX7_share_120 : decode cX7_share 120 = .ok (.iload_n 1, 1) := by decide +kernel
theorem dX7_share_121 : decode cX7_share 121 = .ok (.iaload, 1) := by decide +kernel
theorem dX7_share_122 : decode cX7_share 122 = .ok (.invokevirtual 213, 3) := by decide +kernel
theorem dX7_share_125 : decode cX7_share 125 = .ok (.lstore 6, 2) := by decide +kernel
theorem dX7_share_127 : decode cX7_share 127 = .ok (.lload_n 3, 1) := by decide +kernel
theorem dX7_share_128 : decode cX7_share 128 = .ok (.lconst 0, 1) := by decide +kernel
theorem dX7_share_129 : decode cX7_share 129 = .ok (.lcmp, 1) := by decide +kernel
theorem dX7_share_130 : decode cX7_share 130 = .ok (.ifCond .ge 8, 3) := by decide +kernel
theorem dX7_share_133 : decode cX7_share 133 = .ok (.lload_n 3, 1) := by decide +kernel
theorem dX7_share_134 : decode cX7_share 134 = .ok (.lneg, 1) := by decide +kernel
theorem dX7_share_135 : decode cX7_share 135 = .ok (.goto 4, 3) := by decide +kernel
theorem dX7_share_138 : decode cX7_share 138 = .ok (.lload_n 3, 1) := by decide +kernel
theorem dX7_share_139 : decode cX7_share 139 = .ok (.lstore 8, 2) := by decide +kernel
theorem dX7_share_141 : decode cX7_share 141 = .ok (.aload_n 0, 1) := by decide +kernel
theorem dX7_share_142 : decode cX7_share 142 = .ok (.getfield 102, 3) := by decide +kernel
theorem dX7_share_145 : decode cX7_share 145 = .ok (.iload_n 1, 1) := by decide +kernel
theorem dX7_share_146 : decode cX7_share 146 = .ok (.iaload, 1) := by decide +kernel
theorem dX7_share_147 : decode cX7_share 147 = .ok (.ifCond .ge 7, 3) := by decide +kernel
theorem dX7_share_150 : decode cX7_share 150 = .ok (.lconst 0, 1) := by decide +kernel
theorem dX7_share_151 : decode cX7_share 151 = .ok (.goto 32, 3) := by decide +kernel
theorem dX7_share_154 : decode cX7_share 154 = .ok (.iload 5, 2) := by decide +kernel
theorem dX7_share_156 : decode cX7_share 156 = .ok (.ifCond .ne 25, 3) := by decide +kernel
theorem dX7_share_159 : decode cX7_share 159 = .ok (.aload_n 0, 1) := by decide +kernel
theorem dX7_share_160 : decode cX7_share 160 = .ok (.getfield 102, 3) := by decide +kernel
theorem dX7_share_163 : decode cX7_share 163 = .ok (.iload_n 1, 1) := by decide +kernel
theorem dX7_share_164 : decode cX7_share 164 = .ok (.iaload, 1) := by decide +kernel
theorem dX7_share_165 : decode cX7_share 165 = .ok (.ifCond .ne 16, 3) := by decide +kernel
theorem dX7_share_168 : decode cX7_share 168 = .ok (.lload 8, 2) := by decide +kernel
theorem dX7_share_170 : decode cX7_share 170 = .ok (.lload 6, 2) := by decide +kernel
theorem dX7_share_172 : decode cX7_share 172 = .ok (.lcmp, 1) := by decide +kernel
theorem dX7_share_173 : decode cX7_share 173 = .ok (.ifCond .le 8, 3) := by decide +kernel
theorem dX7_share_176 : decode cX7_share 176 = .ok (.lload 6, 2) := by decide +kernel
theorem dX7_share_178 : decode cX7_share 178 = .ok (.goto 5, 3) := by decide +kernel
theorem dX7_share_181 : decode cX7_share 181 = .ok (.lload 8, 2) := by decide +kernel
theorem dX7_share_183 : decode cX7_share 183 = .ok (.lstore 10, 2) := by decide +kernel
theorem dX7_share_185 : decode cX7_share 185 = .ok (.aload_n 0, 1) := by decide +kernel
theorem dX7_share_186 : decode cX7_share 186 = .ok (.getfield 105, 3) := by decide +kernel
theorem dX7_share_189 : decode cX7_share 189 = .ok (.iload_n 1, 1) := by decide +kernel
theorem dX7_share_190 : decode cX7_share 190 = .ok (.lload 8, 2) := by decide +kernel
theorem dX7_share_192 : decode cX7_share 192 = .ok (.lload 10, 2) := by decide +kernel
theorem dX7_share_194 : decode cX7_share 194 = .ok (.lsub, 1) := by decide +kernel
theorem dX7_share_195 : decode cX7_share 195 = .ok (.lastore, 1) := by decide +kernel
theorem dX7_share_196 : decode cX7_share 196 = .ok (.lconst 0, 1) := by decide +kernel
theorem dX7_share_197 : decode cX7_share 197 = .ok (.lstore 12, 2) := by decide +kernel
theorem dX7_share_199 : decode cX7_share 199 = .ok (.iconst 0, 1) := by decide +kernel
theorem dX7_share_200 : decode cX7_share 200 = .ok (.istore 14, 2) := by decide +kernel
theorem dX7_share_202 : decode cX7_share 202 = .ok (.iload 14, 2) := by decide +kernel
theorem dX7_share_204 : decode cX7_share 204 = .ok (.iload_n 2, 1) := by decide +kernel
theorem dX7_share_205 : decode cX7_share 205 = .ok (.if_icmp .gt 111, 3) := by decide +kernel
theorem dX7_share_208 : decode cX7_share 208 = .ok (.lload 6, 2) := by decide +kernel
theorem dX7_share_210 : decode cX7_share 210 = .ok (.lconst 0, 1) := by decide +kernel
theorem dX7_share_211 : decode cX7_share 211 = .ok (.lcmp, 1) := by decide +kernel
theorem dX7_share_212 : decode cX7_share 212 = .ok (.ifCond .ne 7, 3) := by decide +kernel
theorem dX7_share_215 : decode cX7_share 215 = .ok (.lconst 0, 1) := by decide +kernel
theorem dX7_share_216 : decode cX7_share 216 = .ok (.goto 26, 3) := by decide +kernel
theorem dX7_share_219 : decode cX7_share 219 = .ok (.lload 10, 2) := by decide +kernel
theorem dX7_share_221 : decode cX7_share 221 = .ok (.aload_n 0, 1) := by decide +kernel
theorem dX7_share_222 : decode cX7_share 222 = .ok (.iload_n 1, 1) := by decide +kernel
theorem dX7_share_223 : decode cX7_share 223 = .ok (.iload 14, 2) := by decide +kernel
theorem dX7_share_225 : decode cX7_share 225 = .ok (.iconst 1, 1) := by decide +kernel
theorem dX7_share_226 : decode cX7_share 226 = .ok (.iadd, 1) := by decide +kernel
theorem dX7_share_227 : decode cX7_share 227 = .ok (.iload 5, 2) := by decide +kernel
theorem dX7_share_229 : decode cX7_share 229 = .ok (.aload_n 0, 1) := by decide +kernel
theorem dX7_share_230 : decode cX7_share 230 = .ok (.getfield 102, 3) := by decide +kernel
theorem dX7_share_233 : decode cX7_share 233 = .ok (.iload_n 1, 1) := by decide +kernel
theorem dX7_share_234 : decode cX7_share 234 = .ok (.iaload, 1) := by decide +kernel
theorem dX7_share_235 : decode cX7_share 235 = .ok (.invokevirtual 213, 3) := by decide +kernel
theorem dX7_share_238 : decode cX7_share 238 = .ok (.lmul, 1) := by decide +kernel
theorem dX7_share_239 : decode cX7_share 239 = .ok (.lload 6, 2) := by decide +kernel
theorem dX7_share_241 : decode cX7_share 241 = .ok (.ldiv, 1) := by decide +kernel
theorem dX7_share_242 : decode cX7_share 242 = .ok (.lstore 15, 2) := by decide +kernel
theorem dX7_share_244 : decode cX7_share 244 = .ok (.lload 12, 2) := by decide +kernel
theorem dX7_share_246 : decode cX7_share 246 = .ok (.aload_n 0, 1) := by decide +kernel
theorem dX7_share_247 : decode cX7_share 247 = .ok (.iload_n 1, 1) := by decide +kernel
theorem dX7_share_248 : decode cX7_share 248 = .ok (.iload 14, 2) := by decide +kernel
theorem dX7_share_250 : decode cX7_share 250 = .ok (.invokevirtual 206, 3) := by decide +kernel
theorem dX7_share_253 : decode cX7_share 253 = .ok (.ladd, 1) := by decide +kernel
theorem dX7_share_254 : decode cX7_share 254 = .ok (.lstore 12, 2) := by decide +kernel
theorem dX7_share_256 : decode cX7_share 256 = .ok (.iload 14, 2) := by decide +kernel
theorem dX7_share_258 : decode cX7_share 258 = .ok (.iload_n 2, 1) := by decide +kernel
theorem dX7_share_259 : decode cX7_share 259 = .ok (.if_icmp .ge 51, 3) := by decide +kernel
theorem dX7_share_262 : decode cX7_share 262 = .ok (.aload_n 0, 1) := by decide +kernel
theorem dX7_share_263 : decode cX7_share 263 = .ok (.getfield 92, 3) := by decide +kernel
theorem dX7_share_266 : decode cX7_share 266 = .ok (.bipush 24, 2) := by decide +kernel
theorem dX7_share_268 : decode cX7_share 268 = .ok (.iload_n 1, 1) := by decide +kernel
theorem dX7_share_269 : decode cX7_share 269 = .ok (.imul, 1) := by decide +kernel
theorem dX7_share_270 : decode cX7_share 270 = .ok (.iload 14, 2) := by decide +kernel
theorem dX7_share_272 : decode cX7_share 272 = .ok (.iadd, 1) := by decide +kernel
theorem dX7_share_273 : decode cX7_share 273 = .ok (.iload 5, 2) := by decide +kernel
theorem dX7_share_275 : decode cX7_share 275 = .ok (.ifCond .eq 11, 3) := by decide +kernel
theorem dX7_share_278 : decode cX7_share 278 = .ok (.lload 12, 2) := by decide +kernel
theorem dX7_share_280 : decode cX7_share 280 = .ok (.lload 15, 2) := by decide +kernel
theorem dX7_share_282 : decode cX7_share 282 = .ok (.ladd, 1) := by decide +kernel
theorem dX7_share_283 : decode cX7_share 283 = .ok (.goto 8, 3) := by decide +kernel
theorem dX7_share_286 : decode cX7_share 286 = .ok (.lload 12, 2) := by decide +kernel
theorem dX7_share_288 : decode cX7_share 288 = .ok (.lload 15, 2) := by decide +kernel
theorem dX7_share_290 : decode cX7_share 290 = .ok (.lsub, 1) := by decide +kernel
theorem dX7_share_291 : decode cX7_share 291 = .ok (.lastore, 1) := by decide +kernel
theorem dX7_share_292 : decode cX7_share 292 = .ok (.lload 12, 2) := by decide +kernel
theorem dX7_share_294 : decode cX7_share 294 = .ok (.aload_n 0, 1) := by decide +kernel
theorem dX7_share_295 : decode cX7_share 295 = .ok (.getfield 86, 3) := by decide +kernel
theorem dX7_share_298 : decode cX7_share 298 = .ok (.bipush 24, 2) := by decide +kernel
theorem dX7_share_300 : decode cX7_share 300 = .ok (.iload_n 1, 1) := by decide +kernel
theorem dX7_share_301 : decode cX7_share 301 = .ok (.imul, 1) := by decide +kernel
theorem dX7_share_302 : decode cX7_share 302 = .ok (.iload 14, 2) := by decide +kernel
theorem dX7_share_304 : decode cX7_share 304 = .ok (.iadd, 1) := by decide +kernel
theorem dX7_share_305 : decode cX7_share 305 = .ok (.iaload, 1) := by decide +kernel
theorem dX7_share_306 : decode cX7_share 306 = .ok (.i2l, 1) := by decide +kernel
theorem dX7_share_307 : decode cX7_share 307 = .ok (.ladd, 1) := by decide +kernel
theorem dX7_share_308 : decode cX7_share 308 = .ok (.lstore 12, 2) := by decide +kernel
theorem dX7_share_310 : decode cX7_share 310 = .ok (.iinc 14 1, 3) := by decide +kernel
theorem dX7_share_313 : decode cX7_share 313 = .ok (.goto (-111), 3) := by decide +kernel
theorem dX7_share_316 : decode cX7_share 316 = .ok (.return_, 1) := by decide +kernel
theorem dX7_isColumn_0 : decode cX7_isColumn 0 = .ok (.aload_n 0, 1) := by decide +kernel
theorem dX7_isColumn_1 : decode cX7_isColumn 1 = .ok (.iload_n 1, 1) := by decide +kernel
theorem dX7_isColumn_2 : decode cX7_isColumn 2 = .ok (.invokevirtual 121, 3) := by decide +kernel
theorem dX7_isColumn_5 : decode cX7_isColumn 5 = .ok (.ifCond .eq 30, 3) := by decide +kernel
theorem dX7_isColumn_8 : decode cX7_isColumn 8 = .ok (.aload_n 0, 1) := by decide +kernel
theorem dX7_isColumn_9 : decode cX7_isColumn 9 = .ok (.getfield 80, 3) := by decide +kernel
theorem dX7_isColumn_12 : decode cX7_isColumn 12 = .ok (.iload_n 1, 1) := by decide +kernel
theorem dX7_isColumn_13 : decode cX7_isColumn 13 = .ok (.iaload, 1) := by decide +kernel
theorem dX7_isColumn_14 : decode cX7_isColumn 14 = .ok (.ifCond .le 21, 3) := by decide +kernel
theorem dX7_isColumn_17 : decode cX7_isColumn 17 = .ok (.iload_n 2, 1) := by decide +kernel
theorem dX7_isColumn_18 : decode cX7_isColumn 18 = .ok (.ifCond .lt 17, 3) := by decide +kernel
theorem dX7_isColumn_21 : decode cX7_isColumn 21 = .ok (.iload_n 2, 1) := by decide +kernel
theorem dX7_isColumn_22 : decode cX7_isColumn 22 = .ok (.aload_n 0, 1) := by decide +kernel
theorem dX7_isColumn_23 : decode cX7_isColumn 23 = .ok (.getfield 83, 3) := by decide +kernel
theorem dX7_isColumn_26 : decode cX7_isColumn 26 = .ok (.iload_n 1, 1) := by decide +kernel
theorem dX7_isColumn_27 : decode cX7_isColumn 27 = .ok (.iaload, 1) := by decide +kernel
theorem dX7_isColumn_28 : decode cX7_isColumn 28 = .ok (.if_icmp .ge 7, 3) := by decide +kernel
theorem dX7_isColumn_31 : decode cX7_isColumn 31 = .ok (.iconst 1, 1) := by decide +kernel
theorem dX7_isColumn_32 : decode cX7_isColumn 32 = .ok (.goto 4, 3) := by decide +kernel
theorem dX7_isColumn_35 : decode cX7_isColumn 35 = .ok (.iconst 0, 1) := by decide +kernel
theorem dX7_isColumn_36 : decode cX7_isColumn 36 = .ok (.ireturn, 1) := by decide +kernel
theorem dX7_width_0 : decode cX7_width 0 = .ok (.aload_n 0, 1) := by decide +kernel
theorem dX7_width_1 : decode cX7_width 1 = .ok (.iconst 0, 1) := by decide +kernel
theorem dX7_width_2 : decode cX7_width 2 = .ok (.putfield 114, 3) := by decide +kernel
theorem dX7_width_5 : decode cX7_width 5 = .ok (.aload_n 0, 1) := by decide +kernel
theorem dX7_width_6 : decode cX7_width 6 = .ok (.iload_n 1, 1) := by decide +kernel
theorem dX7_width_7 : decode cX7_width 7 = .ok (.iload_n 2, 1) := by decide +kernel
theorem dX7_width_8 : decode cX7_width 8 = .ok (.invokevirtual 216, 3) := by decide +kernel
theorem dX7_width_11 : decode cX7_width 11 = .ok (.ifCond .eq 17, 3) := by decide +kernel
theorem dX7_width_14 : decode cX7_width 14 = .ok (.aload_n 0, 1) := by decide +kernel
theorem dX7_width_15 : decode cX7_width 15 = .ok (.getfield 86, 3) := by decide +kernel
theorem dX7_width_18 : decode cX7_width 18 = .ok (.bipush 24, 2) := by decide +kernel
theorem dX7_width_20 : decode cX7_width 20 = .ok (.iload_n 1, 1) := by decide +kernel
theorem dX7_width_21 : decode cX7_width 21 = .ok (.imul, 1) := by decide +kernel
theorem dX7_width_22 : decode cX7_width 22 = .ok (.iload_n 2, 1) := by decide +kernel
theorem dX7_width_23 : decode cX7_width 23 = .ok (.iadd, 1) := by decide +kernel
theorem dX7_width_24 : decode cX7_width 24 = .ok (.iaload, 1) := by decide +kernel
theorem dX7_width_25 : decode cX7_width 25 = .ok (.goto 4, 3) := by decide +kernel
theorem dX7_width_28 : decode cX7_width 28 = .ok (.iconst (-1), 1) := by decide +kernel
theorem dX7_width_29 : decode cX7_width 29 = .ok (.ireturn, 1) := by decide +kernel
theorem dX7_isVoid_0 : decode cX7_isVoid 0 = .ok (.aload_n 0, 1) := by decide +kernel
theorem dX7_isVoid_1 : decode cX7_isVoid 1 = .ok (.iconst 0, 1) := by decide +kernel
theorem dX7_isVoid_2 : decode cX7_isVoid 2 = .ok (.putfield 114, 3) := by decide +kernel
theorem dX7_isVoid_5 : decode cX7_isVoid 5 = .ok (.aload_n 0, 1) := by decide +kernel
theorem dX7_isVoid_6 : decode cX7_isVoid 6 = .ok (.iload_n 1, 1) := by decide +kernel
theorem dX7_isVoid_7 : decode cX7_isVoid 7 = .ok (.iload_n 2, 1) := by decide +kernel
theorem dX7_isVoid_8 : decode cX7_isVoid 8 = .ok (.invokevirtual 216, 3) := by decide +kernel
theorem dX7_isVoid_11 : decode cX7_isVoid 11 = .ok (.ifCond .eq 21, 3) := by decide +kernel
theorem dX7_isVoid_14 : decode cX7_isVoid 14 = .ok (.aload_n 0, 1) := by decide +kernel
theorem dX7_isVoid_15 : decode cX7_isVoid 15 = .ok (.getfield 89, 3) := by decide +kernel
theorem dX7_isVoid_18 : decode cX7_isVoid 18 = .ok (.bipush 24, 2) := by decide +kernel
theorem dX7_isVoid_20 : decode cX7_isVoid 20 = .ok (.iload_n 1, 1) := by decide +kernel
theorem dX7_isVoid_21 : decode cX7_isVoid 21 = .ok (.imul, 1) := by decide +kernel
theorem dX7_isVoid_22 : decode cX7_isVoid 22 = .ok (.iload_n 2, 1) := by decide +kernel
theorem dX7_isVoid_23 : decode cX7_isVoid 23 = .ok (.iadd, 1) := by decide +kernel
theorem dX7_isVoid_24 : decode cX7_isVoid 24 = .ok (.baload, 1) := by decide +kernel
theorem dX7_isVoid_25 : decode cX7_isVoid 25 = .ok (.ifCond .eq 7, 3) := by decide +kernel
theorem dX7_isVoid_28 : decode cX7_isVoid 28 = .ok (.iconst 1, 1) := by decide +kernel
theorem dX7_isVoid_29 : decode cX7_isVoid 29 = .ok (.goto 4, 3) := by decide +kernel
theorem dX7_isVoid_32 : decode cX7_isVoid 32 = .ok (.iconst 0, 1) := by decide +kernel
theorem dX7_isVoid_33 : decode cX7_isVoid 33 = .ok (.ireturn, 1) := by decide +kernel
theorem dX7_place_0 : decode cX7_place 0 = .ok (.aload_n 0, 1) := by decide +kernel
theorem dX7_place_1 : decode cX7_place 1 = .ok (.aload_n 0, 1) := by decide +kernel
theorem dX7_place_2 : decode cX7_place 2 = .ok (.iload_n 1, 1) := by decide +kernel
theorem dX7_place_3 : decode cX7_place 3 = .ok (.iload_n 2, 1) := by decide +kernel
theorem dX7_place_4 : decode cX7_place 4 = .ok (.invokevirtual 216, 3) := by decide +kernel
theorem dX7_place_7 : decode cX7_place 7 = .ok (.ifCond .eq 7, 3) := by decide +kernel
theorem dX7_place_10 : decode cX7_place 10 = .ok (.iconst 0, 1) := by decide +kernel
theorem dX7_place_11 : decode cX7_place 11 = .ok (.goto 4, 3) := by decide +kernel
theorem dX7_place_14 : decode cX7_place 14 = .ok (.iconst 1, 1) := by decide +kernel
theorem dX7_place_15 : decode cX7_place 15 = .ok (.putfield 114, 3) := by decide +kernel
theorem dX7_place_18 : decode cX7_place 18 = .ok (.aload_n 0, 1) := by decide +kernel
theorem dX7_place_19 : decode cX7_place 19 = .ok (.getfield 114, 3) := by decide +kernel
theorem dX7_place_22 : decode cX7_place 22 = .ok (.ifCond .ne 17, 3) := by decide +kernel
theorem dX7_place_25 : decode cX7_place 25 = .ok (.aload_n 0, 1) := by decide +kernel
theorem dX7_place_26 : decode cX7_place 26 = .ok (.getfield 92, 3) := by decide +kernel
theorem dX7_place_29 : decode cX7_place 29 = .ok (.bipush 24, 2) := by decide +kernel
theorem dX7_place_31 : decode cX7_place 31 = .ok (.iload_n 1, 1) := by decide +kernel
theorem dX7_place_32 : decode cX7_place 32 = .ok (.imul, 1) := by decide +kernel
theorem dX7_place_33 : decode cX7_place 33 = .ok (.iload_n 2, 1) := by decide +kernel
theorem dX7_place_34 : decode cX7_place 34 = .ok (.iadd, 1) := by decide +kernel
theorem dX7_place_35 : decode cX7_place 35 = .ok (.laload, 1) := by decide +kernel
theorem dX7_place_36 : decode cX7_place 36 = .ok (.goto 4, 3) := by decide +kernel
theorem dX7_place_39 : decode cX7_place 39 = .ok (.lconst 0, 1) := by decide +kernel
theorem dX7_place_40 : decode cX7_place 40 = .ok (.lreturn, 1) := by decide +kernel
theorem dX7_at_0 : decode cX7_at 0 = .ok (.aload_n 0, 1) := by decide +kernel
theorem dX7_at_1 : decode cX7_at 1 = .ok (.aload_n 0, 1) := by decide +kernel
theorem dX7_at_2 : decode cX7_at 2 = .ok (.iload_n 1, 1) := by decide +kernel
theorem dX7_at_3 : decode cX7_at 3 = .ok (.invokevirtual 121, 3) := by decide +kernel
theorem dX7_at_6 : decode cX7_at 6 = .ok (.ifCond .eq 32, 3) := by decide +kernel
theorem dX7_at_9 : decode cX7_at 9 = .ok (.iload_n 2, 1) := by decide +kernel
theorem dX7_at_10 : decode cX7_at 10 = .ok (.ifCond .lt 28, 3) := by decide +kernel
theorem dX7_at_13 : decode cX7_at 13 = .ok (.iload_n 2, 1) := by decide +kernel
theorem dX7_at_14 : decode cX7_at 14 = .ok (.aload_n 0, 1) := by decide +kernel
theorem dX7_at_15 : decode cX7_at 15 = .ok (.getfield 47, 3) := by decide +kernel
theorem dX7_at_18 : decode cX7_at 18 = .ok (.iload_n 1, 1) := by decide +kernel
theorem dX7_at_19 : decode cX7_at 19 = .ok (.iaload, 1) := by decide +kernel
theorem dX7_at_20 : decode cX7_at 20 = .ok (.if_icmp .ge 18, 3) := by decide +kernel
theorem dX7_at_23 : decode cX7_at 23 = .ok (.iload_n 3, 1) := by decide +kernel
theorem dX7_at_24 : decode cX7_at 24 = .ok (.ifCond .lt 14, 3) := by decide +kernel
theorem dX7_at_27 : decode cX7_at 27 = .ok (.iload 4, 2) := by decide +kernel
theorem dX7_at_29 : decode cX7_at 29 = .ok (.ifCond .lt 9, 3) := by decide +kernel
theorem dX7_at_32 : decode cX7_at 32 = .ok (.iload 4, 2) := by decide +kernel
theorem dX7_at_34 : decode cX7_at 34 = .ok (.iconst 4, 1) := by decide +kernel
theorem dX7_at_35 : decode cX7_at 35 = .ok (.if_icmp .le 7, 3) := by decide +kernel
theorem dX7_at_38 : decode cX7_at 38 = .ok (.iconst 1, 1) := by decide +kernel
theorem dX7_at_39 : decode cX7_at 39 = .ok (.goto 23, 3) := by decide +kernel
theorem dX7_at_42 : decode cX7_at 42 = .ok (.iload_n 3, 1) := by decide +kernel
theorem dX7_at_43 : decode cX7_at 43 = .ok (.aload_n 0, 1) := by decide +kernel
theorem dX7_at_44 : decode cX7_at 44 = .ok (.getfield 56, 3) := by decide +kernel
theorem dX7_at_47 : decode cX7_at 47 = .ok (.bipush 20, 2) := by decide +kernel
theorem dX7_at_49 : decode cX7_at 49 = .ok (.iload_n 1, 1) := by decide +kernel
theorem dX7_at_50 : decode cX7_at 50 = .ok (.imul, 1) := by decide +kernel
theorem dX7_at_51 : decode cX7_at 51 = .ok (.iload_n 2, 1) := by decide +kernel
theorem dX7_at_52 : decode cX7_at 52 = .ok (.iadd, 1) := by decide +kernel
theorem dX7_at_53 : decode cX7_at 53 = .ok (.iaload, 1) := by decide +kernel
theorem dX7_at_54 : decode cX7_at 54 = .ok (.if_icmp .lt 7, 3) := by decide +kernel
theorem dX7_at_57 : decode cX7_at 57 = .ok (.iconst 1, 1) := by decide +kernel
theorem dX7_at_58 : decode cX7_at 58 = .ok (.goto 4, 3) := by decide +kernel
theorem dX7_at_61 : decode cX7_at 61 = .ok (.iconst 0, 1) := by decide +kernel
theorem dX7_at_62 : decode cX7_at 62 = .ok (.putfield 114, 3) := by decide +kernel
theorem dX7_at_65 : decode cX7_at 65 = .ok (.aload_n 0, 1) := by decide +kernel
theorem dX7_at_66 : decode cX7_at 66 = .ok (.getfield 114, 3) := by decide +kernel
theorem dX7_at_69 : decode cX7_at 69 = .ok (.ifCond .le 5, 3) := by decide +kernel
theorem dX7_at_72 : decode cX7_at 72 = .ok (.lconst 0, 1) := by decide +kernel
theorem dX7_at_73 : decode cX7_at 73 = .ok (.lreturn, 1) := by decide +kernel
theorem dX7_at_74 : decode cX7_at 74 = .ok (.sipush 480, 3) := by decide +kernel
theorem dX7_at_77 : decode cX7_at 77 = .ok (.iload_n 1, 1) := by decide +kernel
theorem dX7_at_78 : decode cX7_at 78 = .ok (.imul, 1) := by decide +kernel
theorem dX7_at_79 : decode cX7_at 79 = .ok (.aload_n 0, 1) := by decide +kernel
theorem dX7_at_80 : decode cX7_at 80 = .ok (.getfield 53, 3) := by decide +kernel
theorem dX7_at_83 : decode cX7_at 83 = .ok (.bipush 20, 2) := by decide +kernel
theorem dX7_at_85 : decode cX7_at 85 = .ok (.iload_n 1, 1) := by decide +kernel
theorem dX7_at_86 : decode cX7_at 86 = .ok (.imul, 1) := by decide +kernel
theorem dX7_at_87 : decode cX7_at 87 = .ok (.iload_n 2, 1) := by decide +kernel
theorem dX7_at_88 : decode cX7_at 88 = .ok (.iadd, 1) := by decide +kernel
theorem dX7_at_89 : decode cX7_at 89 = .ok (.iaload, 1) := by decide +kernel
theorem dX7_at_90 : decode cX7_at 90 = .ok (.iadd, 1) := by decide +kernel
theorem dX7_at_91 : decode cX7_at 91 = .ok (.iload_n 3, 1) := by decide +kernel
theorem dX7_at_92 : decode cX7_at 92 = .ok (.iadd, 1) := by decide +kernel
theorem dX7_at_93 : decode cX7_at 93 = .ok (.istore 5, 2) := by decide +kernel
theorem dX7_at_95 : decode cX7_at 95 = .ok (.iload 4, 2) := by decide +kernel
theorem dX7_at_97 : decode cX7_at 97 = .ok (.iconst 3, 1) := by decide +kernel
theorem dX7_at_98 : decode cX7_at 98 = .ok (.if_icmp .ge 45, 3) := by decide +kernel
theorem dX7_at_101 : decode cX7_at 101 = .ok (.iload 4, 2) := by decide +kernel
theorem dX7_at_103 : decode cX7_at 103 = .ok (.ifCond .ne 14, 3) := by decide +kernel
theorem dX7_at_106 : decode cX7_at 106 = .ok (.aload_n 0, 1) := by decide +kernel
theorem dX7_at_107 : decode cX7_at 107 = .ok (.getfield 62, 3) := by decide +kernel
theorem dX7_at_110 : decode cX7_at 110 = .ok (.iload 5, 2) := by decide +kernel
theorem dX7_at_112 : decode cX7_at 112 = .ok (.iaload, 1) := by decide +kernel
theorem dX7_at_113 : decode cX7_at 113 = .ok (.i2l, 1) := by decide +kernel
theorem dX7_at_114 : decode cX7_at 114 = .ok (.goto 28, 3) := by decide +kernel
theorem dX7_at_117 : decode cX7_at 117 = .ok (.iload 4, 2) := by decide +kernel
theorem dX7_at_119 : decode cX7_at 119 = .ok (.iconst 1, 1) := by decide +kernel
theorem dX7_at_120 : decode cX7_at 120 = .ok (.if_icmp .ne 14, 3) := by decide +kernel
theorem dX7_at_123 : decode cX7_at 123 = .ok (.aload_n 0, 1) := by decide +kernel
theorem dX7_at_124 : decode cX7_at 124 = .ok (.getfield 65, 3) := by decide +kernel
theorem dX7_at_127 : decode cX7_at 127 = .ok (.iload 5, 2) := by decide +kernel
theorem dX7_at_129 : decode cX7_at 129 = .ok (.iaload, 1) := by decide +kernel
theorem dX7_at_130 : decode cX7_at 130 = .ok (.i2l, 1) := by decide +kernel
theorem dX7_at_131 : decode cX7_at 131 = .ok (.goto 11, 3) := by decide +kernel
theorem dX7_at_134 : decode cX7_at 134 = .ok (.aload_n 0, 1) := by decide +kernel
theorem dX7_at_135 : decode cX7_at 135 = .ok (.getfield 68, 3) := by decide +kernel
theorem dX7_at_138 : decode cX7_at 138 = .ok (.iload 5, 2) := by decide +kernel
theorem dX7_at_140 : decode cX7_at 140 = .ok (.iaload, 1) := by decide +kernel
theorem dX7_at_141 : decode cX7_at 141 = .ok (.i2l, 1) := by decide +kernel
theorem dX7_at_142 : decode cX7_at 142 = .ok (.lreturn, 1) := by decide +kernel
theorem dX7_at_143 : decode cX7_at 143 = .ok (.aload_n 0, 1) := by decide +kernel
theorem dX7_at_144 : decode cX7_at 144 = .ok (.getfield 65, 3) := by decide +kernel
theorem dX7_at_147 : decode cX7_at 147 = .ok (.iload 5, 2) := by decide +kernel
theorem dX7_at_149 : decode cX7_at 149 = .ok (.iaload, 1) := by decide +kernel
theorem dX7_at_150 : decode cX7_at 150 = .ok (.aload_n 0, 1) := by decide +kernel
theorem dX7_at_151 : decode cX7_at 151 = .ok (.getfield 68, 3) := by decide +kernel
theorem dX7_at_154 : decode cX7_at 154 = .ok (.iload 5, 2) := by decide +kernel
theorem dX7_at_156 : decode cX7_at 156 = .ok (.iaload, 1) := by decide +kernel
theorem dX7_at_157 : decode cX7_at 157 = .ok (.iadd, 1) := by decide +kernel
theorem dX7_at_158 : decode cX7_at 158 = .ok (.iconst 1, 1) := by decide +kernel
theorem dX7_at_159 : decode cX7_at 159 = .ok (.isub, 1) := by decide +kernel
theorem dX7_at_160 : decode cX7_at 160 = .ok (.istore 6, 2) := by decide +kernel
theorem dX7_at_162 : decode cX7_at 162 = .ok (.aload_n 0, 1) := by decide +kernel
theorem dX7_at_163 : decode cX7_at 163 = .ok (.iload_n 1, 1) := by decide +kernel
theorem dX7_at_164 : decode cX7_at 164 = .ok (.iload 6, 2) := by decide +kernel
theorem dX7_at_166 : decode cX7_at 166 = .ok (.invokevirtual 216, 3) := by decide +kernel
theorem dX7_at_169 : decode cX7_at 169 = .ok (.ifCond .ne 5, 3) := by decide +kernel
theorem dX7_at_172 : decode cX7_at 172 = .ok (.lconst 0, 1) := by decide +kernel
theorem dX7_at_173 : decode cX7_at 173 = .ok (.lreturn, 1) := by decide +kernel
theorem dX7_at_174 : decode cX7_at 174 = .ok (.aload_n 0, 1) := by decide +kernel
theorem dX7_at_175 : decode cX7_at 175 = .ok (.getfield 92, 3) := by decide +kernel
theorem dX7_at_178 : decode cX7_at 178 = .ok (.bipush 24, 2) := by decide +kernel
theorem dX7_at_180 : decode cX7_at 180 = .ok (.iload_n 1, 1) := by decide +kernel
theorem dX7_at_181 : decode cX7_at 181 = .ok (.imul, 1) := by decide +kernel
theorem dX7_at_182 : decode cX7_at 182 = .ok (.aload_n 0, 1) := by decide +kernel
theorem dX7_at_183 : decode cX7_at 183 = .ok (.getfield 65, 3) := by decide +kernel
theorem dX7_at_186 : decode cX7_at 186 = .ok (.iload 5, 2) := by decide +kernel
theorem dX7_at_188 : decode cX7_at 188 = .ok (.iaload, 1) := by decide +kernel
theorem dX7_at_189 : decode cX7_at 189 = .ok (.iadd, 1) := by decide +kernel
theorem dX7_at_190 : decode cX7_at 190 = .ok (.laload, 1) := by decide +kernel
theorem dX7_at_191 : decode cX7_at 191 = .ok (.lstore 7, 2) := by decide +kernel
theorem dX7_at_193 : decode cX7_at 193 = .ok (.iload 4, 2) := by decide +kernel
theorem dX7_at_195 : decode cX7_at 195 = .ok (.iconst 3, 1) := by decide +kernel
theorem dX7_at_196 : decode cX7_at 196 = .ok (.if_icmp .ne 8, 3) := by decide +kernel
theorem dX7_at_199 : decode cX7_at 199 = .ok (.lload 7, 2) := by decide +kernel
theorem dX7_at_201 : decode cX7_at 201 = .ok (.goto 32, 3) := by decide +kernel
theorem dX7_at_204 : decode cX7_at 204 = .ok (.aload_n 0, 1) := by decide +kernel
theorem dX7_at_205 : decode cX7_at 205 = .ok (.getfield 92, 3) := by decide +kernel
theorem dX7_at_208 : decode cX7_at 208 = .ok (.bipush 24, 2) := by decide +kernel
theorem dX7_at_210 : decode cX7_at 210 = .ok (.iload_n 1, 1) := by decide +kernel
theorem dX7_at_211 : decode cX7_at 211 = .ok (.imul, 1) := by decide +kernel
theorem dX7_at_212 : decode cX7_at 212 = .ok (.iload 6, 2) := by decide +kernel
theorem dX7_at_214 : decode cX7_at 214 = .ok (.iadd, 1) := by decide +kernel
theorem dX7_at_215 : decode cX7_at 215 = .ok (.laload, 1) := by decide +kernel
theorem dX7_at_216 : decode cX7_at 216 = .ok (.aload_n 0, 1) := by decide +kernel
theorem dX7_at_217 : decode cX7_at 217 = .ok (.getfield 86, 3) := by decide +kernel
theorem dX7_at_220 : decode cX7_at 220 = .ok (.bipush 24, 2) := by decide +kernel
theorem dX7_at_222 : decode cX7_at 222 = .ok (.iload_n 1, 1) := by decide +kernel
theorem dX7_at_223 : decode cX7_at 223 = .ok (.imul, 1) := by decide +kernel
theorem dX7_at_224 : decode cX7_at 224 = .ok (.iload 6, 2) := by decide +kernel
theorem dX7_at_226 : decode cX7_at 226 = .ok (.iadd, 1) := by decide +kernel
theorem dX7_at_227 : decode cX7_at 227 = .ok (.iaload, 1) := by decide +kernel
theorem dX7_at_228 : decode cX7_at 228 = .ok (.i2l, 1) := by decide +kernel
theorem dX7_at_229 : decode cX7_at 229 = .ok (.ladd, 1) := by decide +kernel
theorem dX7_at_230 : decode cX7_at 230 = .ok (.lload 7, 2) := by decide +kernel
theorem dX7_at_232 : decode cX7_at 232 = .ok (.lsub, 1) := by decide +kernel
theorem dX7_at_233 : decode cX7_at 233 = .ok (.lreturn, 1) := by decide +kernel
theorem dX7_item_0 : decode cX7_item 0 = .ok (.aload_n 0, 1) := by decide +kernel
theorem dX7_item_1 : decode cX7_item 1 = .ok (.aload_n 0, 1) := by decide +kernel
theorem dX7_item_2 : decode cX7_item 2 = .ok (.iload_n 1, 1) := by decide +kernel
theorem dX7_item_3 : decode cX7_item 3 = .ok (.invokevirtual 121, 3) := by decide +kernel
theorem dX7_item_6 : decode cX7_item 6 = .ok (.ifCond .eq 17, 3) := by decide +kernel
theorem dX7_item_9 : decode cX7_item 9 = .ok (.iload_n 2, 1) := by decide +kernel
theorem dX7_item_10 : decode cX7_item 10 = .ok (.ifCond .lt 13, 3) := by decide +kernel
theorem dX7_item_13 : decode cX7_item 13 = .ok (.iload_n 2, 1) := by decide +kernel
theorem dX7_item_14 : decode cX7_item 14 = .ok (.aload_n 0, 1) := by decide +kernel
theorem dX7_item_15 : decode cX7_item 15 = .ok (.getfield 71, 3) := by decide +kernel
theorem dX7_item_18 : decode cX7_item 18 = .ok (.iload_n 1, 1) := by decide +kernel
theorem dX7_item_19 : decode cX7_item 19 = .ok (.iaload, 1) := by decide +kernel
theorem dX7_item_20 : decode cX7_item 20 = .ok (.if_icmp .lt 7, 3) := by decide +kernel
theorem dX7_item_23 : decode cX7_item 23 = .ok (.iconst 1, 1) := by decide +kernel
theorem dX7_item_24 : decode cX7_item 24 = .ok (.goto 4, 3) := by decide +kernel
theorem dX7_item_27 : decode cX7_item 27 = .ok (.iconst 0, 1) := by decide +kernel
theorem dX7_item_28 : decode cX7_item 28 = .ok (.putfield 114, 3) := by decide +kernel
theorem dX7_item_31 : decode cX7_item 31 = .ok (.aload_n 0, 1) := by decide +kernel
theorem dX7_item_32 : decode cX7_item 32 = .ok (.getfield 114, 3) := by decide +kernel
theorem dX7_item_35 : decode cX7_item 35 = .ok (.ifCond .ne 17, 3) := by decide +kernel
theorem dX7_item_38 : decode cX7_item 38 = .ok (.aload_n 0, 1) := by decide +kernel
theorem dX7_item_39 : decode cX7_item 39 = .ok (.getfield 74, 3) := by decide +kernel
theorem dX7_item_42 : decode cX7_item 42 = .ok (.bipush 40, 2) := by decide +kernel
theorem dX7_item_44 : decode cX7_item 44 = .ok (.iload_n 1, 1) := by decide +kernel
theorem dX7_item_45 : decode cX7_item 45 = .ok (.imul, 1) := by decide +kernel
theorem dX7_item_46 : decode cX7_item 46 = .ok (.iload_n 2, 1) := by decide +kernel
theorem dX7_item_47 : decode cX7_item 47 = .ok (.iadd, 1) := by decide +kernel
theorem dX7_item_48 : decode cX7_item 48 = .ok (.iaload, 1) := by decide +kernel
theorem dX7_item_49 : decode cX7_item 49 = .ok (.goto 4, 3) := by decide +kernel
theorem dX7_item_52 : decode cX7_item 52 = .ok (.iconst 0, 1) := by decide +kernel
theorem dX7_item_53 : decode cX7_item 53 = .ok (.ireturn, 1) := by decide +kernel
theorem dX7_count_0 : decode cX7_count 0 = .ok (.aload_n 0, 1) := by decide +kernel
theorem dX7_count_1 : decode cX7_count 1 = .ok (.aload_n 0, 1) := by decide +kernel
theorem dX7_count_2 : decode cX7_count 2 = .ok (.iload_n 1, 1) := by decide +kernel
theorem dX7_count_3 : decode cX7_count 3 = .ok (.invokevirtual 121, 3) := by decide +kernel
theorem dX7_count_6 : decode cX7_count 6 = .ok (.ifCond .eq 13, 3) := by decide +kernel
theorem dX7_count_9 : decode cX7_count 9 = .ok (.iload_n 2, 1) := by decide +kernel
theorem dX7_count_10 : decode cX7_count 10 = .ok (.ifCond .lt 9, 3) := by decide +kernel
theorem dX7_count_13 : decode cX7_count 13 = .ok (.iload_n 2, 1) := by decide +kernel
theorem dX7_count_14 : decode cX7_count 14 = .ok (.bipush 11, 2) := by decide +kernel
theorem dX7_count_16 : decode cX7_count 16 = .ok (.if_icmp .le 7, 3) := by decide +kernel
theorem dX7_count_19 : decode cX7_count 19 = .ok (.iconst 1, 1) := by decide +kernel
theorem dX7_count_20 : decode cX7_count 20 = .ok (.goto 4, 3) := by decide +kernel
theorem dX7_count_23 : decode cX7_count 23 = .ok (.iconst 0, 1) := by decide +kernel
theorem dX7_count_24 : decode cX7_count 24 = .ok (.putfield 114, 3) := by decide +kernel
theorem dX7_count_27 : decode cX7_count 27 = .ok (.aload_n 0, 1) := by decide +kernel
theorem dX7_count_28 : decode cX7_count 28 = .ok (.getfield 114, 3) := by decide +kernel
theorem dX7_count_31 : decode cX7_count 31 = .ok (.ifCond .le 5, 3) := by decide +kernel
theorem dX7_count_34 : decode cX7_count 34 = .ok (.lconst 0, 1) := by decide +kernel
theorem dX7_count_35 : decode cX7_count 35 = .ok (.lreturn, 1) := by decide +kernel
theorem dX7_count_36 : decode cX7_count 36 = .ok (.iload_n 2, 1) := by decide +kernel
theorem dX7_count_37 : decode cX7_count 37 = .ok (.tableswitch 172 0 10 #[59, 80, 88, 96, 104, 119, 127, 135, 142, 156, 164], 59) := by decide +kernel
theorem dX7_count_96 : decode cX7_count 96 = .ok (.aload_n 0, 1) := by decide +kernel
theorem dX7_count_97 : decode cX7_count 97 = .ok (.getfield 16, 3) := by decide +kernel
theorem dX7_count_100 : decode cX7_count 100 = .ok (.iload_n 1, 1) := by decide +kernel
theorem dX7_count_101 : decode cX7_count 101 = .ok (.baload, 1) := by decide +kernel
theorem dX7_count_102 : decode cX7_count 102 = .ok (.ifCond .eq 13, 3) := by decide +kernel
theorem dX7_count_105 : decode cX7_count 105 = .ok (.aload_n 0, 1) := by decide +kernel
theorem dX7_count_106 : decode cX7_count 106 = .ok (.getfield 20, 3) := by decide +kernel
theorem dX7_count_109 : decode cX7_count 109 = .ok (.iload_n 1, 1) := by decide +kernel
theorem dX7_count_110 : decode cX7_count 110 = .ok (.iaload, 1) := by decide +kernel
theorem dX7_count_111 : decode cX7_count 111 = .ok (.i2l, 1) := by decide +kernel
theorem dX7_count_112 : decode cX7_count 112 = .ok (.goto 4, 3) := by decide +kernel
theorem dX7_count_115 : decode cX7_count 115 = .ok (.lconst 0, 1) := by decide +kernel
theorem dX7_count_116 : decode cX7_count 116 = .ok (.lreturn, 1) := by decide +kernel
theorem dX7_count_117 : decode cX7_count 117 = .ok (.aload_n 0, 1) := by decide +kernel
theorem dX7_count_118 : decode cX7_count 118 = .ok (.getfield 23, 3) := by decide +kernel
theorem dX7_count_121 : decode cX7_count 121 = .ok (.iload_n 1, 1) := by decide +kernel
theorem dX7_count_122 : decode cX7_count 122 = .ok (.iaload, 1) := by decide +kernel
theorem dX7_count_123 : decode cX7_count 123 = .ok (.i2l, 1) := by decide +kernel
theorem dX7_count_124 : decode cX7_count 124 = .ok (.lreturn, 1) := by decide +kernel
theorem dX7_count_125 : decode cX7_count 125 = .ok (.aload_n 0, 1) := by decide +kernel
theorem dX7_count_126 : decode cX7_count 126 = .ok (.getfield 47, 3) := by decide +kernel
theorem dX7_count_129 : decode cX7_count 129 = .ok (.iload_n 1, 1) := by decide +kernel
theorem dX7_count_130 : decode cX7_count 130 = .ok (.iaload, 1) := by decide +kernel
theorem dX7_count_131 : decode cX7_count 131 = .ok (.i2l, 1) := by decide +kernel
theorem dX7_count_132 : decode cX7_count 132 = .ok (.lreturn, 1) := by decide +kernel
theorem dX7_count_133 : decode cX7_count 133 = .ok (.aload_n 0, 1) := by decide +kernel
theorem dX7_count_134 : decode cX7_count 134 = .ok (.getfield 59, 3) := by decide +kernel
theorem dX7_count_137 : decode cX7_count 137 = .ok (.iload_n 1, 1) := by decide +kernel
theorem dX7_count_138 : decode cX7_count 138 = .ok (.iaload, 1) := by decide +kernel
theorem dX7_count_139 : decode cX7_count 139 = .ok (.i2l, 1) := by decide +kernel
theorem dX7_count_140 : decode cX7_count 140 = .ok (.lreturn, 1) := by decide +kernel
theorem dX7_count_141 : decode cX7_count 141 = .ok (.aload_n 0, 1) := by decide +kernel
theorem dX7_count_142 : decode cX7_count 142 = .ok (.getfield 50, 3) := by decide +kernel
theorem dX7_count_145 : decode cX7_count 145 = .ok (.iload_n 1, 1) := by decide +kernel
theorem dX7_count_146 : decode cX7_count 146 = .ok (.baload, 1) := by decide +kernel
theorem dX7_count_147 : decode cX7_count 147 = .ok (.ifCond .eq 7, 3) := by decide +kernel
theorem dX7_count_150 : decode cX7_count 150 = .ok (.lconst 1, 1) := by decide +kernel
theorem dX7_count_151 : decode cX7_count 151 = .ok (.goto 4, 3) := by decide +kernel
theorem dX7_count_154 : decode cX7_count 154 = .ok (.lconst 0, 1) := by decide +kernel
theorem dX7_count_155 : decode cX7_count 155 = .ok (.lreturn, 1) := by decide +kernel
theorem dX7_count_156 : decode cX7_count 156 = .ok (.aload_n 0, 1) := by decide +kernel
theorem dX7_count_157 : decode cX7_count 157 = .ok (.getfield 13, 3) := by decide +kernel
theorem dX7_count_160 : decode cX7_count 160 = .ok (.iload_n 1, 1) := by decide +kernel
theorem dX7_count_161 : decode cX7_count 161 = .ok (.iaload, 1) := by decide +kernel
theorem dX7_count_162 : decode cX7_count 162 = .ok (.i2l, 1) := by decide +kernel
theorem dX7_count_163 : decode cX7_count 163 = .ok (.lreturn, 1) := by decide +kernel
theorem dX7_count_164 : decode cX7_count 164 = .ok (.aload_n 0, 1) := by decide +kernel
theorem dX7_count_165 : decode cX7_count 165 = .ok (.getfield 83, 3) := by decide +kernel
theorem dX7_count_168 : decode cX7_count 168 = .ok (.iload_n 1, 1) := by decide +kernel
theorem dX7_count_169 : decode cX7_count 169 = .ok (.iaload, 1) := by decide +kernel
theorem dX7_count_170 : decode cX7_count 170 = .ok (.i2l, 1) := by decide +kernel
theorem dX7_count_171 : decode cX7_count 171 = .ok (.lreturn, 1) := by decide +kernel
theorem dX7_count_172 : decode cX7_count 172 = .ok (.aload_n 0, 1) := by decide +kernel
theorem dX7_count_173 : decode cX7_count 173 = .ok (.getfield 96, 3) := by decide +kernel
theorem dX7_count_176 : decode cX7_count 176 = .ok (.iload_n 1, 1) := by decide +kernel
theorem dX7_count_177 : decode cX7_count 177 = .ok (.laload, 1) := by decide +kernel
theorem dX7_count_178 : decode cX7_count 178 = .ok (.lreturn, 1) := by decide +kernel
theorem dX7_count_179 : decode cX7_count 179 = .ok (.aload_n 0, 1) := by decide +kernel
theorem dX7_count_180 : decode cX7_count 180 = .ok (.getfield 99, 3) := by decide +kernel
theorem dX7_count_183 : decode cX7_count 183 = .ok (.iload_n 1, 1) := by decide +kernel
theorem dX7_count_184 : decode cX7_count 184 = .ok (.laload, 1) := by decide +kernel
theorem dX7_count_185 : decode cX7_count 185 = .ok (.aload_n 0, 1) := by decide +kernel
theorem dX7_count_186 : decode cX7_count 186 = .ok (.getfield 96, 3) := by decide +kernel
theorem dX7_count_189 : decode cX7_count 189 = .ok (.iload_n 1, 1) := by decide +kernel
theorem dX7_count_190 : decode cX7_count 190 = .ok (.laload, 1) := by decide +kernel
theorem dX7_count_191 : decode cX7_count 191 = .ok (.lsub, 1) := by decide +kernel
theorem dX7_count_192 : decode cX7_count 192 = .ok (.lreturn, 1) := by decide +kernel
theorem dX7_count_193 : decode cX7_count 193 = .ok (.aload_n 0, 1) := by decide +kernel
theorem dX7_count_194 : decode cX7_count 194 = .ok (.getfield 80, 3) := by decide +kernel
theorem dX7_count_197 : decode cX7_count 197 = .ok (.iload_n 1, 1) := by decide +kernel
theorem dX7_count_198 : decode cX7_count 198 = .ok (.iaload, 1) := by decide +kernel
theorem dX7_count_199 : decode cX7_count 199 = .ok (.i2l, 1) := by decide +kernel
theorem dX7_count_200 : decode cX7_count 200 = .ok (.lreturn, 1) := by decide +kernel
theorem dX7_count_201 : decode cX7_count 201 = .ok (.aload_n 0, 1) := by decide +kernel
theorem dX7_count_202 : decode cX7_count 202 = .ok (.getfield 102, 3) := by decide +kernel
theorem dX7_count_205 : decode cX7_count 205 = .ok (.iload_n 1, 1) := by decide +kernel
theorem dX7_count_206 : decode cX7_count 206 = .ok (.iaload, 1) := by decide +kernel
theorem dX7_count_207 : decode cX7_count 207 = .ok (.i2l, 1) := by decide +kernel
theorem dX7_count_208 : decode cX7_count 208 = .ok (.lreturn, 1) := by decide +kernel
theorem dX7_count_209 : decode cX7_count 209 = .ok (.aload_n 0, 1) := by decide +kernel
theorem dX7_count_210 : decode cX7_count 210 = .ok (.getfield 105, 3) := by decide +kernel
theorem dX7_count_213 : decode cX7_count 213 = .ok (.iload_n 1, 1) := by decide +kernel
theorem dX7_count_214 : decode cX7_count 214 = .ok (.laload, 1) := by decide +kernel
theorem dX7_count_215 : decode cX7_count 215 = .ok (.lreturn, 1) := by decide +kernel
end
section
theorem dL_place_0 : decode cL_place 0 = .ok (.aload_n 3, 1) := by decide +kernel
theorem dL_place_1 : decode cL_place 1 = .ok (.iconst 0, 1) := by decide +kernel
theorem dL_place_2 : decode cL_place 2 = .ok (.aload_n 0, 1) := by decide +kernel
theorem dL_place_3 : decode cL_place 3 = .ok (.iload_n 1, 1) := by decide +kernel
theorem dL_place_4 : decode cL_place 4 = .ok (.iload_n 2, 1) := by decide +kernel
theorem dL_place_5 : decode cL_place 5 = .ok (.invokevirtual 7, 3) := by decide +kernel
theorem dL_place_8 : decode cL_place 8 = .ok (.lastore, 1) := by decide +kernel
theorem dL_place_9 : decode cL_place 9 = .ok (.goto 7, 3) := by decide +kernel
theorem dL_place_12 : decode cL_place 12 = .ok (.astore 4, 2) := by decide +kernel
theorem dL_place_14 : decode cL_place 14 = .ok (.iconst 1, 1) := by decide +kernel
theorem dL_place_15 : decode cL_place 15 = .ok (.ireturn, 1) := by decide +kernel
theorem dL_place_16 : decode cL_place 16 = .ok (.iconst 0, 1) := by decide +kernel
theorem dL_place_17 : decode cL_place 17 = .ok (.ireturn, 1) := by decide +kernel
theorem dL_at_0 : decode cL_at 0 = .ok (.aload 5, 2) := by decide +kernel
theorem dL_at_2 : decode cL_at 2 = .ok (.iconst 0, 1) := by decide +kernel
theorem dL_at_3 : decode cL_at 3 = .ok (.aload_n 0, 1) := by decide +kernel
theorem dL_at_4 : decode cL_at 4 = .ok (.iload_n 1, 1) := by decide +kernel
theorem dL_at_5 : decode cL_at 5 = .ok (.iload_n 2, 1) := by decide +kernel
theorem dL_at_6 : decode cL_at 6 = .ok (.iload_n 3, 1) := by decide +kernel
theorem dL_at_7 : decode cL_at 7 = .ok (.iload 4, 2) := by decide +kernel
theorem dL_at_9 : decode cL_at 9 = .ok (.invokevirtual 15, 3) := by decide +kernel
theorem dL_at_12 : decode cL_at 12 = .ok (.lastore, 1) := by decide +kernel
theorem dL_at_13 : decode cL_at 13 = .ok (.goto 7, 3) := by decide +kernel
theorem dL_at_16 : decode cL_at 16 = .ok (.astore 6, 2) := by decide +kernel
theorem dL_at_18 : decode cL_at 18 = .ok (.iconst 1, 1) := by decide +kernel
theorem dL_at_19 : decode cL_at 19 = .ok (.ireturn, 1) := by decide +kernel
theorem dL_at_20 : decode cL_at 20 = .ok (.iconst 0, 1) := by decide +kernel
theorem dL_at_21 : decode cL_at 21 = .ok (.ireturn, 1) := by decide +kernel
theorem dL_item_0 : decode cL_item 0 = .ok (.aload_n 3, 1) := by decide +kernel
theorem dL_item_1 : decode cL_item 1 = .ok (.iconst 0, 1) := by decide +kernel
theorem dL_item_2 : decode cL_item 2 = .ok (.aload_n 0, 1) := by decide +kernel
theorem dL_item_3 : decode cL_item 3 = .ok (.iload_n 1, 1) := by decide +kernel
theorem dL_item_4 : decode cL_item 4 = .ok (.iload_n 2, 1) := by decide +kernel
theorem dL_item_5 : decode cL_item 5 = .ok (.invokevirtual 19, 3) := by decide +kernel
theorem dL_item_8 : decode cL_item 8 = .ok (.i2l, 1) := by decide +kernel
theorem dL_item_9 : decode cL_item 9 = .ok (.lastore, 1) := by decide +kernel
theorem dL_item_10 : decode cL_item 10 = .ok (.goto 7, 3) := by decide +kernel
theorem dL_item_13 : decode cL_item 13 = .ok (.astore 4, 2) := by decide +kernel
theorem dL_item_15 : decode cL_item 15 = .ok (.iconst 1, 1) := by decide +kernel
theorem dL_item_16 : decode cL_item 16 = .ok (.ireturn, 1) := by decide +kernel
theorem dL_item_17 : decode cL_item 17 = .ok (.iconst 0, 1) := by decide +kernel
theorem dL_item_18 : decode cL_item 18 = .ok (.ireturn, 1) := by decide +kernel
theorem dL_count_0 : decode cL_count 0 = .ok (.aload_n 3, 1) := by decide +kernel
theorem dL_count_1 : decode cL_count 1 = .ok (.iconst 0, 1) := by decide +kernel
theorem dL_count_2 : decode cL_count 2 = .ok (.aload_n 0, 1) := by decide +kernel
theorem dL_count_3 : decode cL_count 3 = .ok (.iload_n 1, 1) := by decide +kernel
theorem dL_count_4 : decode cL_count 4 = .ok (.iload_n 2, 1) := by decide +kernel
theorem dL_count_5 : decode cL_count 5 = .ok (.invokevirtual 23, 3) := by decide +kernel
theorem dL_count_8 : decode cL_count 8 = .ok (.lastore, 1) := by decide +kernel
theorem dL_count_9 : decode cL_count 9 = .ok (.goto 7, 3) := by decide +kernel
theorem dL_count_12 : decode cL_count 12 = .ok (.astore 4, 2) := by decide +kernel
theorem dL_count_14 : decode cL_count 14 = .ok (.iconst 1, 1) := by decide +kernel
theorem dL_count_15 : decode cL_count 15 = .ok (.ireturn, 1) := by decide +kernel
theorem dL_count_16 : decode cL_count 16 = .ok (.iconst 0, 1) := by decide +kernel
theorem dL_count_17 : decode cL_count 17 = .ok (.ireturn, 1) := by decide +kernel
theorem dL_law_0 : decode cL_law 0 = .ok (.new 8, 3) := by decide +kernel
theorem dL_law_3 : decode cL_law 3 = .ok (.dup, 1) := by decide +kernel
theorem dL_law_4 : decode cL_law 4 = .ok (.invokespecial 26, 3) := by decide +kernel
theorem dL_law_7 : decode cL_law 7 = .ok (.astore_n 1, 1) := by decide +kernel
theorem dL_law_8 : decode cL_law 8 = .ok (.new 27, 3) := by decide +kernel
theorem dL_law_11 : decode cL_law 11 = .ok (.dup, 1) := by decide +kernel
theorem dL_law_12 : decode cL_law 12 = .ok (.invokespecial 29, 3) := by decide +kernel
theorem dL_law_15 : decode cL_law 15 = .ok (.astore_n 2, 1) := by decide +kernel
theorem dL_law_16 : decode cL_law 16 = .ok (.iconst 1, 1) := by decide +kernel
theorem dL_law_17 : decode cL_law 17 = .ok (.newarray .long, 2) := by decide +kernel
theorem dL_law_19 : decode cL_law 19 = .ok (.astore_n 3, 1) := by decide +kernel
theorem dL_law_20 : decode cL_law 20 = .ok (.iconst 0, 1) := by decide +kernel
theorem dL_law_21 : decode cL_law 21 = .ok (.istore 4, 2) := by decide +kernel
theorem dL_law_23 : decode cL_law 23 = .ok (.iload 4, 2) := by decide +kernel
theorem dL_law_25 : decode cL_law 25 = .ok (.aload_n 0, 1) := by decide +kernel
theorem dL_law_26 : decode cL_law 26 = .ok (.arraylength, 1) := by decide +kernel
theorem dL_law_27 : decode cL_law 27 = .ok (.bipush 6, 2) := by decide +kernel
theorem dL_law_29 : decode cL_law 29 = .ok (.isub, 1) := by decide +kernel
theorem dL_law_30 : decode cL_law 30 = .ok (.if_icmp .gt 951, 3) := by decide +kernel
theorem dL_law_33 : decode cL_law 33 = .ok (.aload_n 0, 1) := by decide +kernel
theorem dL_law_34 : decode cL_law 34 = .ok (.iload 4, 2) := by decide +kernel
theorem dL_law_36 : decode cL_law 36 = .ok (.iaload, 1) := by decide +kernel
theorem dL_law_37 : decode cL_law 37 = .ok (.bipush 31, 2) := by decide +kernel
theorem dL_law_39 : decode cL_law 39 = .ok (.iand, 1) := by decide +kernel
theorem dL_law_40 : decode cL_law 40 = .ok (.tableswitch 935 0 16 #[84, 97, 158, 183, 256, 317, 342, 419, 468, 493, 518, 568, 605, 642, 709, 800, 868], 84) := by decide +kernel
theorem dL_law_124 : decode cL_law 124 = .ok (.aload_n 1, 1) := by decide +kernel
theorem dL_law_125 : decode cL_law 125 = .ok (.invokevirtual 30, 3) := by decide +kernel
theorem dL_law_128 : decode cL_law 128 = .ok (.aload_n 2, 1) := by decide +kernel
theorem dL_law_129 : decode cL_law 129 = .ok (.invokevirtual 34, 3) := by decide +kernel
theorem dL_law_132 : decode cL_law 132 = .ok (.if_icmp .eq 843, 3) := by decide +kernel
theorem dL_law_135 : decode cL_law 135 = .ok (.iconst 0, 1) := by decide +kernel
theorem dL_law_136 : decode cL_law 136 = .ok (.ireturn, 1) := by decide +kernel
theorem dL_law_137 : decode cL_law 137 = .ok (.aload_n 1, 1) := by decide +kernel
theorem dL_law_138 : decode cL_law 138 = .ok (.aload_n 0, 1) := by decide +kernel
theorem dL_law_139 : decode cL_law 139 = .ok (.iload 4, 2) := by decide +kernel
theorem dL_law_141 : decode cL_law 141 = .ok (.iconst 1, 1) := by decide +kernel
theorem dL_law_142 : decode cL_law 142 = .ok (.iadd, 1) := by decide +kernel
theorem dL_law_143 : decode cL_law 143 = .ok (.iaload, 1) := by decide +kernel
theorem dL_law_144 : decode cL_law 144 = .ok (.aload_n 0, 1) := by decide +kernel
theorem dL_law_145 : decode cL_law 145 = .ok (.iload 4, 2) := by decide +kernel
theorem dL_law_147 : decode cL_law 147 = .ok (.iconst 2, 1) := by decide +kernel
theorem dL_law_148 : decode cL_law 148 = .ok (.iadd, 1) := by decide +kernel
theorem dL_law_149 : decode cL_law 149 = .ok (.iaload, 1) := by decide +kernel
theorem dL_law_150 : decode cL_law 150 = .ok (.aload_n 0, 1) := by decide +kernel
theorem dL_law_151 : decode cL_law 151 = .ok (.iload 4, 2) := by decide +kernel
theorem dL_law_153 : decode cL_law 153 = .ok (.iconst 3, 1) := by decide +kernel
theorem dL_law_154 : decode cL_law 154 = .ok (.iadd, 1) := by decide +kernel
theorem dL_law_155 : decode cL_law 155 = .ok (.iaload, 1) := by decide +kernel
theorem dL_law_156 : decode cL_law 156 = .ok (.aload_n 0, 1) := by decide +kernel
theorem dL_law_157 : decode cL_law 157 = .ok (.iload 4, 2) := by decide +kernel
theorem dL_law_159 : decode cL_law 159 = .ok (.iconst 4, 1) := by decide +kernel
theorem dL_law_160 : decode cL_law 160 = .ok (.iadd, 1) := by decide +kernel
theorem dL_law_161 : decode cL_law 161 = .ok (.iaload, 1) := by decide +kernel
theorem dL_law_162 : decode cL_law 162 = .ok (.invokevirtual 35, 3) := by decide +kernel
theorem dL_law_165 : decode cL_law 165 = .ok (.aload_n 2, 1) := by decide +kernel
theorem dL_law_166 : decode cL_law 166 = .ok (.aload_n 0, 1) := by decide +kernel
theorem dL_law_167 : decode cL_law 167 = .ok (.iload 4, 2) := by decide +kernel
theorem dL_law_169 : decode cL_law 169 = .ok (.iconst 1, 1) := by decide +kernel
theorem dL_law_170 : decode cL_law 170 = .ok (.iadd, 1) := by decide +kernel
theorem dL_law_171 : decode cL_law 171 = .ok (.iaload, 1) := by decide +kernel
theorem dL_law_172 : decode cL_law 172 = .ok (.aload_n 0, 1) := by decide +kernel
theorem dL_law_173 : decode cL_law 173 = .ok (.iload 4, 2) := by decide +kernel
theorem dL_law_175 : decode cL_law 175 = .ok (.iconst 2, 1) := by decide +kernel
theorem dL_law_176 : decode cL_law 176 = .ok (.iadd, 1) := by decide +kernel
theorem dL_law_177 : decode cL_law 177 = .ok (.iaload, 1) := by decide +kernel
theorem dL_law_178 : decode cL_law 178 = .ok (.aload_n 0, 1) := by decide +kernel
theorem dL_law_179 : decode cL_law 179 = .ok (.iload 4, 2) := by decide +kernel
theorem dL_law_181 : decode cL_law 181 = .ok (.iconst 3, 1) := by decide +kernel
theorem dL_law_182 : decode cL_law 182 = .ok (.iadd, 1) := by decide +kernel
theorem dL_law_183 : decode cL_law 183 = .ok (.iaload, 1) := by decide +kernel
theorem dL_law_184 : decode cL_law 184 = .ok (.aload_n 0, 1) := by decide +kernel
theorem dL_law_185 : decode cL_law 185 = .ok (.iload 4, 2) := by decide +kernel
theorem dL_law_187 : decode cL_law 187 = .ok (.iconst 4, 1) := by decide +kernel
theorem dL_law_188 : decode cL_law 188 = .ok (.iadd, 1) := by decide +kernel
theorem dL_law_189 : decode cL_law 189 = .ok (.iaload, 1) := by decide +kernel
theorem dL_law_190 : decode cL_law 190 = .ok (.invokevirtual 39, 3) := by decide +kernel
theorem dL_law_193 : decode cL_law 193 = .ok (.if_icmp .eq 782, 3) := by decide +kernel
theorem dL_law_196 : decode cL_law 196 = .ok (.iconst 0, 1) := by decide +kernel
theorem dL_law_197 : decode cL_law 197 = .ok (.ireturn, 1) := by decide +kernel
theorem dL_law_198 : decode cL_law 198 = .ok (.aload_n 1, 1) := by decide +kernel
theorem dL_law_199 : decode cL_law 199 = .ok (.aload_n 0, 1) := by decide +kernel
theorem dL_law_200 : decode cL_law 200 = .ok (.iload 4, 2) := by decide +kernel
theorem dL_law_202 : decode cL_law 202 = .ok (.iconst 1, 1) := by decide +kernel
theorem dL_law_203 : decode cL_law 203 = .ok (.iadd, 1) := by decide +kernel
theorem dL_law_204 : decode cL_law 204 = .ok (.iaload, 1) := by decide +kernel
theorem dL_law_205 : decode cL_law 205 = .ok (.invokevirtual 40, 3) := by decide +kernel
theorem dL_law_208 : decode cL_law 208 = .ok (.aload_n 2, 1) := by decide +kernel
theorem dL_law_209 : decode cL_law 209 = .ok (.aload_n 0, 1) := by decide +kernel
theorem dL_law_210 : decode cL_law 210 = .ok (.iload 4, 2) := by decide +kernel
theorem dL_law_212 : decode cL_law 212 = .ok (.iconst 1, 1) := by decide +kernel
theorem dL_law_213 : decode cL_law 213 = .ok (.iadd, 1) := by decide +kernel
theorem dL_law_214 : decode cL_law 214 = .ok (.iaload, 1) := by decide +kernel
theorem dL_law_215 : decode cL_law 215 = .ok (.invokevirtual 44, 3) := by decide +kernel
theorem dL_law_218 : decode cL_law 218 = .ok (.if_icmp .eq 757, 3) := by decide +kernel
theorem dL_law_221 : decode cL_law 221 = .ok (.iconst 0, 1) := by decide +kernel
theorem dL_law_222 : decode cL_law 222 = .ok (.ireturn, 1) := by decide +kernel
theorem dL_law_223 : decode cL_law 223 = .ok (.aload_n 1, 1) := by decide +kernel
theorem dL_law_224 : decode cL_law 224 = .ok (.aload_n 0, 1) := by decide +kernel
theorem dL_law_225 : decode cL_law 225 = .ok (.iload 4, 2) := by decide +kernel
theorem dL_law_227 : decode cL_law 227 = .ok (.iconst 1, 1) := by decide +kernel
theorem dL_law_228 : decode cL_law 228 = .ok (.iadd, 1) := by decide +kernel
theorem dL_law_229 : decode cL_law 229 = .ok (.iaload, 1) := by decide +kernel
theorem dL_law_230 : decode cL_law 230 = .ok (.aload_n 0, 1) := by decide +kernel
theorem dL_law_231 : decode cL_law 231 = .ok (.iload 4, 2) := by decide +kernel
theorem dL_law_233 : decode cL_law 233 = .ok (.iconst 2, 1) := by decide +kernel
theorem dL_law_234 : decode cL_law 234 = .ok (.iadd, 1) := by decide +kernel
theorem dL_law_235 : decode cL_law 235 = .ok (.iaload, 1) := by decide +kernel
theorem dL_law_236 : decode cL_law 236 = .ok (.aload_n 0, 1) := by decide +kernel
theorem dL_law_237 : decode cL_law 237 = .ok (.iload 4, 2) := by decide +kernel
theorem dL_law_239 : decode cL_law 239 = .ok (.iconst 3, 1) := by decide +kernel
theorem dL_law_240 : decode cL_law 240 = .ok (.iadd, 1) := by decide +kernel
theorem dL_law_241 : decode cL_law 241 = .ok (.iaload, 1) := by decide +kernel
theorem dL_law_242 : decode cL_law 242 = .ok (.aload_n 0, 1) := by decide +kernel
theorem dL_law_243 : decode cL_law 243 = .ok (.iload 4, 2) := by decide +kernel
theorem dL_law_245 : decode cL_law 245 = .ok (.iconst 4, 1) := by decide +kernel
theorem dL_law_246 : decode cL_law 246 = .ok (.iadd, 1) := by decide +kernel
theorem dL_law_247 : decode cL_law 247 = .ok (.iaload, 1) := by decide +kernel
theorem dL_law_248 : decode cL_law 248 = .ok (.aload_n 0, 1) := by decide +kernel
theorem dL_law_249 : decode cL_law 249 = .ok (.iload 4, 2) := by decide +kernel
theorem dL_law_251 : decode cL_law 251 = .ok (.iconst 5, 1) := by decide +kernel
theorem dL_law_252 : decode cL_law 252 = .ok (.iadd, 1) := by decide +kernel
theorem dL_law_253 : decode cL_law 253 = .ok (.iaload, 1) := by decide +kernel
theorem dL_law_254 : decode cL_law 254 = .ok (.invokevirtual 45, 3) := by decide +kernel
theorem dL_law_257 : decode cL_law 257 = .ok (.aload_n 2, 1) := by decide +kernel
theorem dL_law_258 : decode cL_law 258 = .ok (.aload_n 0, 1) := by decide +kernel
theorem dL_law_259 : decode cL_law 259 = .ok (.iload 4, 2) := by decide +kernel
theorem dL_law_261 : decode cL_law 261 = .ok (.iconst 1, 1) := by decide +kernel
theorem dL_law_262 : decode cL_law 262 = .ok (.iadd, 1) := by decide +kernel
theorem dL_law_263 : decode cL_law 263 = .ok (.iaload, 1) := by decide +kernel
theorem dL_law_264 : decode cL_law 264 = .ok (.aload_n 0, 1) := by decide +kernel
theorem dL_law_265 : decode cL_law 265 = .ok (.iload 4, 2) := by decide +kernel
theorem dL_law_267 : decode cL_law 267 = .ok (.iconst 2, 1) := by decide +kernel
theorem dL_law_268 : decode cL_law 268 = .ok (.iadd, 1) := by decide +kernel
theorem dL_law_269 : decode cL_law 269 = .ok (.iaload, 1) := by decide +kernel
theorem dL_law_270 : decode cL_law 270 = .ok (.aload_n 0, 1) := by decide +kernel
theorem dL_law_271 : decode cL_law 271 = .ok (.iload 4, 2) := by decide +kernel
theorem dL_law_273 : decode cL_law 273 = .ok (.iconst 3, 1) := by decide +kernel
theorem dL_law_274 : decode cL_law 274 = .ok (.iadd, 1) := by decide +kernel
theorem dL_law_275 : decode cL_law 275 = .ok (.iaload, 1) := by decide +kernel
theorem dL_law_276 : decode cL_law 276 = .ok (.aload_n 0, 1) := by decide +kernel
theorem dL_law_277 : decode cL_law 277 = .ok (.iload 4, 2) := by decide +kernel
theorem dL_law_279 : decode cL_law 279 = .ok (.iconst 4, 1) := by decide +kernel
theorem dL_law_280 : decode cL_law 280 = .ok (.iadd, 1) := by decide +kernel
theorem dL_law_281 : decode cL_law 281 = .ok (.iaload, 1) := by decide +kernel
theorem dL_law_282 : decode cL_law 282 = .ok (.aload_n 0, 1) := by decide +kernel
theorem dL_law_283 : decode cL_law 283 = .ok (.iload 4, 2) := by decide +kernel
theorem dL_law_285 : decode cL_law 285 = .ok (.iconst 5, 1) := by decide +kernel
theorem dL_law_286 : decode cL_law 286 = .ok (.iadd, 1) := by decide +kernel
theorem dL_law_287 : decode cL_law 287 = .ok (.iaload, 1) := by decide +kernel
theorem dL_law_288 : decode cL_law 288 = .ok (.invokevirtual 49, 3) := by decide +kernel
theorem dL_law_291 : decode cL_law 291 = .ok (.if_icmp .eq 684, 3) := by decide +kernel
theorem dL_law_294 : decode cL_law 294 = .ok (.iconst 0, 1) := by decide +kernel
theorem dL_law_295 : decode cL_law 295 = .ok (.ireturn, 1) := by decide +kernel
theorem dL_law_296 : decode cL_law 296 = .ok (.aload_n 1, 1) := by decide +kernel
theorem dL_law_297 : decode cL_law 297 = .ok (.aload_n 0, 1) := by decide +kernel
theorem dL_law_298 : decode cL_law 298 = .ok (.iload 4, 2) := by decide +kernel
theorem dL_law_300 : decode cL_law 300 = .ok (.iconst 1, 1) := by decide +kernel
theorem dL_law_301 : decode cL_law 301 = .ok (.iadd, 1) := by decide +kernel
theorem dL_law_302 : decode cL_law 302 = .ok (.iaload, 1) := by decide +kernel
theorem dL_law_303 : decode cL_law 303 = .ok (.aload_n 0, 1) := by decide +kernel
theorem dL_law_304 : decode cL_law 304 = .ok (.iload 4, 2) := by decide +kernel
theorem dL_law_306 : decode cL_law 306 = .ok (.iconst 2, 1) := by decide +kernel
theorem dL_law_307 : decode cL_law 307 = .ok (.iadd, 1) := by decide +kernel
theorem dL_law_308 : decode cL_law 308 = .ok (.iaload, 1) := by decide +kernel
theorem dL_law_309 : decode cL_law 309 = .ok (.aload_n 0, 1) := by decide +kernel
theorem dL_law_310 : decode cL_law 310 = .ok (.iload 4, 2) := by decide +kernel
theorem dL_law_312 : decode cL_law 312 = .ok (.iconst 3, 1) := by decide +kernel
theorem dL_law_313 : decode cL_law 313 = .ok (.iadd, 1) := by decide +kernel
theorem dL_law_314 : decode cL_law 314 = .ok (.iaload, 1) := by decide +kernel
theorem dL_law_315 : decode cL_law 315 = .ok (.aload_n 0, 1) := by decide +kernel
theorem dL_law_316 : decode cL_law 316 = .ok (.iload 4, 2) := by decide +kernel
theorem dL_law_318 : decode cL_law 318 = .ok (.iconst 4, 1) := by decide +kernel
theorem dL_law_319 : decode cL_law 319 = .ok (.iadd, 1) := by decide +kernel
theorem dL_law_320 : decode cL_law 320 = .ok (.iaload, 1) := by decide +kernel
theorem dL_law_321 : decode cL_law 321 = .ok (.invokevirtual 50, 3) := by decide +kernel
theorem dL_law_324 : decode cL_law 324 = .ok (.aload_n 2, 1) := by decide +kernel
theorem dL_law_325 : decode cL_law 325 = .ok (.aload_n 0, 1) := by decide +kernel
theorem dL_law_326 : decode cL_law 326 = .ok (.iload 4, 2) := by decide +kernel
theorem dL_law_328 : decode cL_law 328 = .ok (.iconst 1, 1) := by decide +kernel
theorem dL_law_329 : decode cL_law 329 = .ok (.iadd, 1) := by decide +kernel
theorem dL_law_330 : decode cL_law 330 = .ok (.iaload, 1) := by decide +kernel
theorem dL_law_331 : decode cL_law 331 = .ok (.aload_n 0, 1) := by decide +kernel
theorem dL_law_332 : decode cL_law 332 = .ok (.iload 4, 2) := by decide +kernel
theorem dL_law_334 : decode cL_law 334 = .ok (.iconst 2, 1) := by decide +kernel
theorem dL_law_335 : decode cL_law 335 = .ok (.iadd, 1) := by decide +kernel
theorem dL_law_336 : decode cL_law 336 = .ok (.iaload, 1) := by decide +kernel
theorem dL_law_337 : decode cL_law 337 = .ok (.aload_n 0, 1) := by decide +kernel
theorem dL_law_338 : decode cL_law 338 = .ok (.iload 4, 2) := by decide +kernel
theorem dL_law_340 : decode cL_law 340 = .ok (.iconst 3, 1) := by decide +kernel
theorem dL_law_341 : decode cL_law 341 = .ok (.iadd, 1) := by decide +kernel
theorem dL_law_342 : decode cL_law 342 = .ok (.iaload, 1) := by decide +kernel
theorem dL_law_343 : decode cL_law 343 = .ok (.aload_n 0, 1) := by decide +kernel
theorem dL_law_344 : decode cL_law 344 = .ok (.iload 4, 2) := by decide +kernel
theorem dL_law_346 : decode cL_law 346 = .ok (.iconst 4, 1) := by decide +kernel
theorem dL_law_347 : decode cL_law 347 = .ok (.iadd, 1) := by decide +kernel
theorem dL_law_348 : decode cL_law 348 = .ok (.iaload, 1) := by decide +kernel
theorem dL_law_349 : decode cL_law 349 = .ok (.invokevirtual 53, 3) := by decide +kernel
theorem dL_law_352 : decode cL_law 352 = .ok (.if_icmp .eq 623, 3) := by decide +kernel
theorem dL_law_355 : decode cL_law 355 = .ok (.iconst 0, 1) := by decide +kernel
theorem dL_law_356 : decode cL_law 356 = .ok (.ireturn, 1) := by decide +kernel
theorem dL_law_357 : decode cL_law 357 = .ok (.aload_n 1, 1) := by decide +kernel
theorem dL_law_358 : decode cL_law 358 = .ok (.aload_n 0, 1) := by decide +kernel
theorem dL_law_359 : decode cL_law 359 = .ok (.iload 4, 2) := by decide +kernel
theorem dL_law_361 : decode cL_law 361 = .ok (.iconst 1, 1) := by decide +kernel
theorem dL_law_362 : decode cL_law 362 = .ok (.iadd, 1) := by decide +kernel
theorem dL_law_363 : decode cL_law 363 = .ok (.iaload, 1) := by decide +kernel
theorem dL_law_364 : decode cL_law 364 = .ok (.invokevirtual 54, 3) := by decide +kernel
theorem dL_law_367 : decode cL_law 367 = .ok (.aload_n 2, 1) := by decide +kernel
theorem dL_law_368 : decode cL_law 368 = .ok (.aload_n 0, 1) := by decide +kernel
theorem dL_law_369 : decode cL_law 369 = .ok (.iload 4, 2) := by decide +kernel
theorem dL_law_371 : decode cL_law 371 = .ok (.iconst 1, 1) := by decide +kernel
theorem dL_law_372 : decode cL_law 372 = .ok (.iadd, 1) := by decide +kernel
theorem dL_law_373 : decode cL_law 373 = .ok (.iaload, 1) := by decide +kernel
theorem dL_law_374 : decode cL_law 374 = .ok (.invokevirtual 57, 3) := by decide +kernel
theorem dL_law_377 : decode cL_law 377 = .ok (.if_icmp .eq 598, 3) := by decide +kernel
theorem dL_law_380 : decode cL_law 380 = .ok (.iconst 0, 1) := by decide +kernel
theorem dL_law_381 : decode cL_law 381 = .ok (.ireturn, 1) := by decide +kernel
theorem dL_law_382 : decode cL_law 382 = .ok (.aload_n 1, 1) := by decide +kernel
theorem dL_law_383 : decode cL_law 383 = .ok (.aload_n 0, 1) := by decide +kernel
theorem dL_law_384 : decode cL_law 384 = .ok (.iload 4, 2) := by decide +kernel
theorem dL_law_386 : decode cL_law 386 = .ok (.iconst 1, 1) := by decide +kernel
theorem dL_law_387 : decode cL_law 387 = .ok (.iadd, 1) := by decide +kernel
theorem dL_law_388 : decode cL_law 388 = .ok (.iaload, 1) := by decide +kernel
theorem dL_law_389 : decode cL_law 389 = .ok (.aload_n 0, 1) := by decide +kernel
theorem dL_law_390 : decode cL_law 390 = .ok (.iload 4, 2) := by decide +kernel
theorem dL_law_392 : decode cL_law 392 = .ok (.iconst 2, 1) := by decide +kernel
theorem dL_law_393 : decode cL_law 393 = .ok (.iadd, 1) := by decide +kernel
theorem dL_law_394 : decode cL_law 394 = .ok (.iaload, 1) := by decide +kernel
theorem dL_law_395 : decode cL_law 395 = .ok (.aload_n 0, 1) := by decide +kernel
theorem dL_law_396 : decode cL_law 396 = .ok (.iload 4, 2) := by decide +kernel
theorem dL_law_398 : decode cL_law 398 = .ok (.iconst 3, 1) := by decide +kernel
theorem dL_law_399 : decode cL_law 399 = .ok (.iadd, 1) := by decide +kernel
theorem dL_law_400 : decode cL_law 400 = .ok (.iaload, 1) := by decide +kernel
theorem dL_law_401 : decode cL_law 401 = .ok (.aload_n 0, 1) := by decide +kernel
theorem dL_law_402 : decode cL_law 402 = .ok (.iload 4, 2) := by decide +kernel
theorem dL_law_404 : decode cL_law 404 = .ok (.iconst 4, 1) := by decide +kernel
theorem dL_law_405 : decode cL_law 405 = .ok (.iadd, 1) := by decide +kernel
theorem dL_law_406 : decode cL_law 406 = .ok (.iaload, 1) := by decide +kernel
theorem dL_law_407 : decode cL_law 407 = .ok (.ifCond .eq 7, 3) := by decide +kernel
theorem dL_law_410 : decode cL_law 410 = .ok (.iconst 1, 1) := by decide +kernel
theorem dL_law_411 : decode cL_law 411 = .ok (.goto 4, 3) := by decide +kernel
theorem dL_law_414 : decode cL_law 414 = .ok (.iconst 0, 1) := by decide +kernel
theorem dL_law_415 : decode cL_law 415 = .ok (.invokevirtual 58, 3) := by decide +kernel
theorem dL_law_418 : decode cL_law 418 = .ok (.aload_n 2, 1) := by decide +kernel
theorem dL_law_419 : decode cL_law 419 = .ok (.aload_n 0, 1) := by decide +kernel
theorem dL_law_420 : decode cL_law 420 = .ok (.iload 4, 2) := by decide +kernel
theorem dL_law_422 : decode cL_law 422 = .ok (.iconst 1, 1) := by decide +kernel
theorem dL_law_423 : decode cL_law 423 = .ok (.iadd, 1) := by decide +kernel
theorem dL_law_424 : decode cL_law 424 = .ok (.iaload, 1) := by decide +kernel
theorem dL_law_425 : decode cL_law 425 = .ok (.aload_n 0, 1) := by decide +kernel
theorem dL_law_426 : decode cL_law 426 = .ok (.iload 4, 2) := by decide +kernel
theorem dL_law_428 : decode cL_law 428 = .ok (.iconst 2, 1) := by decide +kernel
theorem dL_law_429 : decode cL_law 429 = .ok (.iadd, 1) := by decide +kernel
theorem dL_law_430 : decode cL_law 430 = .ok (.iaload, 1) := by decide +kernel
theorem dL_law_431 : decode cL_law 431 = .ok (.aload_n 0, 1) := by decide +kernel
theorem dL_law_432 : decode cL_law 432 = .ok (.iload 4, 2) := by decide +kernel
theorem dL_law_434 : decode cL_law 434 = .ok (.iconst 3, 1) := by decide +kernel
theorem dL_law_435 : decode cL_law 435 = .ok (.iadd, 1) := by decide +kernel
theorem dL_law_436 : decode cL_law 436 = .ok (.iaload, 1) := by decide +kernel
theorem dL_law_437 : decode cL_law 437 = .ok (.aload_n 0, 1) := by decide +kernel
theorem dL_law_438 : decode cL_law 438 = .ok (.iload 4, 2) := by decide +kernel
theorem dL_law_440 : decode cL_law 440 = .ok (.iconst 4, 1) := by decide +kernel
theorem dL_law_441 : decode cL_law 441 = .ok (.iadd, 1) := by decide +kernel
theorem dL_law_442 : decode cL_law 442 = .ok (.iaload, 1) := by decide +kernel
theorem dL_law_443 : decode cL_law 443 = .ok (.ifCond .eq 7, 3) := by decide +kernel
theorem dL_law_446 : decode cL_law 446 = .ok (.iconst 1, 1) := by decide +kernel
theorem dL_law_447 : decode cL_law 447 = .ok (.goto 4, 3) := by decide +kernel
theorem dL_law_450 : decode cL_law 450 = .ok (.iconst 0, 1) := by decide +kernel
theorem dL_law_451 : decode cL_law 451 = .ok (.invokevirtual 62, 3) := by decide +kernel
theorem dL_law_454 : decode cL_law 454 = .ok (.if_icmp .eq 521, 3) := by decide +kernel
theorem dL_law_457 : decode cL_law 457 = .ok (.iconst 0, 1) := by decide +kernel
theorem dL_law_458 : decode cL_law 458 = .ok (.ireturn, 1) := by decide +kernel
theorem dL_law_459 : decode cL_law 459 = .ok (.aload_n 1, 1) := by decide +kernel
theorem dL_law_460 : decode cL_law 460 = .ok (.aload_n 0, 1) := by decide +kernel
theorem dL_law_461 : decode cL_law 461 = .ok (.iload 4, 2) := by decide +kernel
theorem dL_law_463 : decode cL_law 463 = .ok (.iconst 1, 1) := by decide +kernel
theorem dL_law_464 : decode cL_law 464 = .ok (.iadd, 1) := by decide +kernel
theorem dL_law_465 : decode cL_law 465 = .ok (.iaload, 1) := by decide +kernel
theorem dL_law_466 : decode cL_law 466 = .ok (.aload_n 0, 1) := by decide +kernel
theorem dL_law_467 : decode cL_law 467 = .ok (.iload 4, 2) := by decide +kernel
theorem dL_law_469 : decode cL_law 469 = .ok (.iconst 2, 1) := by decide +kernel
theorem dL_law_470 : decode cL_law 470 = .ok (.iadd, 1) := by decide +kernel
theorem dL_law_471 : decode cL_law 471 = .ok (.iaload, 1) := by decide +kernel
theorem dL_law_472 : decode cL_law 472 = .ok (.aload_n 0, 1) := by decide +kernel
theorem dL_law_473 : decode cL_law 473 = .ok (.iload 4, 2) := by decide +kernel
theorem dL_law_475 : decode cL_law 475 = .ok (.iconst 3, 1) := by decide +kernel
theorem dL_law_476 : decode cL_law 476 = .ok (.iadd, 1) := by decide +kernel
theorem dL_law_477 : decode cL_law 477 = .ok (.iaload, 1) := by decide +kernel
theorem dL_law_478 : decode cL_law 478 = .ok (.invokevirtual 63, 3) := by decide +kernel
theorem dL_law_481 : decode cL_law 481 = .ok (.aload_n 2, 1) := by decide +kernel
theorem dL_law_482 : decode cL_law 482 = .ok (.aload_n 0, 1) := by decide +kernel
theorem dL_law_483 : decode cL_law 483 = .ok (.iload 4, 2) := by decide +kernel
theorem dL_law_485 : decode cL_law 485 = .ok (.iconst 1, 1) := by decide +kernel
theorem dL_law_486 : decode cL_law 486 = .ok (.iadd, 1) := by decide +kernel
theorem dL_law_487 : decode cL_law 487 = .ok (.iaload, 1) := by decide +kernel
theorem dL_law_488 : decode cL_law 488 = .ok (.aload_n 0, 1) := by decide +kernel
theorem dL_law_489 : decode cL_law 489 = .ok (.iload 4, 2) := by decide +kernel
theorem dL_law_491 : decode cL_law 491 = .ok (.iconst 2, 1) := by decide +kernel
theorem dL_law_492 : decode cL_law 492 = .ok (.iadd, 1) := by decide +kernel
theorem dL_law_493 : decode cL_law 493 = .ok (.iaload, 1) := by decide +kernel
theorem dL_law_494 : decode cL_law 494 = .ok (.aload_n 0, 1) := by decide +kernel
theorem dL_law_495 : decode cL_law 495 = .ok (.iload 4, 2) := by decide +kernel
theorem dL_law_497 : decode cL_law 497 = .ok (.iconst 3, 1) := by decide +kernel
theorem dL_law_498 : decode cL_law 498 = .ok (.iadd, 1) := by decide +kernel
theorem dL_law_499 : decode cL_law 499 = .ok (.iaload, 1) := by decide +kernel
theorem dL_law_500 : decode cL_law 500 = .ok (.invokevirtual 67, 3) := by decide +kernel
theorem dL_law_503 : decode cL_law 503 = .ok (.if_icmp .eq 472, 3) := by decide +kernel
theorem dL_law_506 : decode cL_law 506 = .ok (.iconst 0, 1) := by decide +kernel
theorem dL_law_507 : decode cL_law 507 = .ok (.ireturn, 1) := by decide +kernel
theorem dL_law_508 : decode cL_law 508 = .ok (.aload_n 1, 1) := by decide +kernel
theorem dL_law_509 : decode cL_law 509 = .ok (.aload_n 0, 1) := by decide +kernel
theorem dL_law_510 : decode cL_law 510 = .ok (.iload 4, 2) := by decide +kernel
theorem dL_law_512 : decode cL_law 512 = .ok (.iconst 1, 1) := by decide +kernel
theorem dL_law_513 : decode cL_law 513 = .ok (.iadd, 1) := by decide +kernel
theorem dL_law_514 : decode cL_law 514 = .ok (.iaload, 1) := by decide +kernel
theorem dL_law_515 : decode cL_law 515 = .ok (.invokevirtual 68, 3) := by decide +kernel
theorem dL_law_518 : decode cL_law 518 = .ok (.aload_n 2, 1) := by decide +kernel
theorem dL_law_519 : decode cL_law 519 = .ok (.aload_n 0, 1) := by decide +kernel
theorem dL_law_520 : decode cL_law 520 = .ok (.iload 4, 2) := by decide +kernel
theorem dL_law_522 : decode cL_law 522 = .ok (.iconst 1, 1) := by decide +kernel
theorem dL_law_523 : decode cL_law 523 = .ok (.iadd, 1) := by decide +kernel
theorem dL_law_524 : decode cL_law 524 = .ok (.iaload, 1) := by decide +kernel
theorem dL_law_525 : decode cL_law 525 = .ok (.invokevirtual 71, 3) := by decide +kernel
theorem dL_law_528 : decode cL_law 528 = .ok (.if_icmp .eq 447, 3) := by decide +kernel
theorem dL_law_531 : decode cL_law 531 = .ok (.iconst 0, 1) := by decide +kernel
theorem dL_law_532 : decode cL_law 532 = .ok (.ireturn, 1) := by decide +kernel
theorem dL_law_533 : decode cL_law 533 = .ok (.aload_n 1, 1) := by decide +kernel
theorem dL_law_534 : decode cL_law 534 = .ok (.aload_n 0, 1) := by decide +kernel
theorem dL_law_535 : decode cL_law 535 = .ok (.iload 4, 2) := by decide +kernel
theorem dL_law_537 : decode cL_law 537 = .ok (.iconst 1, 1) := by decide +kernel
theorem dL_law_538 : decode cL_law 538 = .ok (.iadd, 1) := by decide +kernel
theorem dL_law_539 : decode cL_law 539 = .ok (.iaload, 1) := by decide +kernel
theorem dL_law_540 : decode cL_law 540 = .ok (.invokevirtual 72, 3) := by decide +kernel
theorem dL_law_543 : decode cL_law 543 = .ok (.aload_n 2, 1) := by decide +kernel
theorem dL_law_544 : decode cL_law 544 = .ok (.aload_n 0, 1) := by decide +kernel
theorem dL_law_545 : decode cL_law 545 = .ok (.iload 4, 2) := by decide +kernel
theorem dL_law_547 : decode cL_law 547 = .ok (.iconst 1, 1) := by decide +kernel
theorem dL_law_548 : decode cL_law 548 = .ok (.iadd, 1) := by decide +kernel
theorem dL_law_549 : decode cL_law 549 = .ok (.iaload, 1) := by decide +kernel
theorem dL_law_550 : decode cL_law 550 = .ok (.invokevirtual 75, 3) := by decide +kernel
theorem dL_law_553 : decode cL_law 553 = .ok (.if_icmp .eq 422, 3) := by decide +kernel
theorem dL_law_556 : decode cL_law 556 = .ok (.iconst 0, 1) := by decide +kernel
theorem dL_law_557 : decode cL_law 557 = .ok (.ireturn, 1) := by decide +kernel
theorem dL_law_558 : decode cL_law 558 = .ok (.aload_n 1, 1) := by decide +kernel
theorem dL_law_559 : decode cL_law 559 = .ok (.aload_n 0, 1) := by decide +kernel
theorem dL_law_560 : decode cL_law 560 = .ok (.iload 4, 2) := by decide +kernel
theorem dL_law_562 : decode cL_law 562 = .ok (.iconst 1, 1) := by decide +kernel
theorem dL_law_563 : decode cL_law 563 = .ok (.iadd, 1) := by decide +kernel
theorem dL_law_564 : decode cL_law 564 = .ok (.iaload, 1) := by decide +kernel
theorem dL_law_565 : decode cL_law 565 = .ok (.aload_n 0, 1) := by decide +kernel
theorem dL_law_566 : decode cL_law 566 = .ok (.iload 4, 2) := by decide +kernel
theorem dL_law_568 : decode cL_law 568 = .ok (.iconst 2, 1) := by decide +kernel
theorem dL_law_569 : decode cL_law 569 = .ok (.iadd, 1) := by decide +kernel
theorem dL_law_570 : decode cL_law 570 = .ok (.iaload, 1) := by decide +kernel
theorem dL_law_571 : decode cL_law 571 = .ok (.aload_n 0, 1) := by decide +kernel
theorem dL_law_572 : decode cL_law 572 = .ok (.iload 4, 2) := by decide +kernel
theorem dL_law_574 : decode cL_law 574 = .ok (.iconst 3, 1) := by decide +kernel
theorem dL_law_575 : decode cL_law 575 = .ok (.iadd, 1) := by decide +kernel
theorem dL_law_576 : decode cL_law 576 = .ok (.iaload, 1) := by decide +kernel
theorem dL_law_577 : decode cL_law 577 = .ok (.invokevirtual 76, 3) := by decide +kernel
theorem dL_law_580 : decode cL_law 580 = .ok (.aload_n 2, 1) := by decide +kernel
theorem dL_law_581 : decode cL_law 581 = .ok (.aload_n 0, 1) := by decide +kernel
theorem dL_law_582 : decode cL_law 582 = .ok (.iload 4, 2) := by decide +kernel
theorem dL_law_584 : decode cL_law 584 = .ok (.iconst 1, 1) := by decide +kernel
theorem dL_law_585 : decode cL_law 585 = .ok (.iadd, 1) := by decide +kernel
theorem dL_law_586 : decode cL_law 586 = .ok (.iaload, 1) := by decide +kernel
theorem dL_law_587 : decode cL_law 587 = .ok (.aload_n 0, 1) := by decide +kernel
theorem dL_law_588 : decode cL_law 588 = .ok (.iload 4, 2) := by decide +kernel
theorem dL_law_590 : decode cL_law 590 = .ok (.iconst 2, 1) := by decide +kernel
theorem dL_law_591 : decode cL_law 591 = .ok (.iadd, 1) := by decide +kernel
theorem dL_law_592 : decode cL_law 592 = .ok (.iaload, 1) := by decide +kernel
theorem dL_law_593 : decode cL_law 593 = .ok (.aload_n 0, 1) := by decide +kernel
theorem dL_law_594 : decode cL_law 594 = .ok (.iload 4, 2) := by decide +kernel
theorem dL_law_596 : decode cL_law 596 = .ok (.iconst 3, 1) := by decide +kernel
theorem dL_law_597 : decode cL_law 597 = .ok (.iadd, 1) := by decide +kernel
theorem dL_law_598 : decode cL_law 598 = .ok (.iaload, 1) := by decide +kernel
theorem dL_law_599 : decode cL_law 599 = .ok (.invokevirtual 80, 3) := by decide +kernel
theorem dL_law_602 : decode cL_law 602 = .ok (.lcmp, 1) := by decide +kernel
theorem dL_law_603 : decode cL_law 603 = .ok (.ifCond .eq 372, 3) := by decide +kernel
theorem dL_law_606 : decode cL_law 606 = .ok (.iconst 0, 1) := by decide +kernel
theorem dL_law_607 : decode cL_law 607 = .ok (.ireturn, 1) := by decide +kernel
theorem dL_law_608 : decode cL_law 608 = .ok (.aload_n 1, 1) := by decide +kernel
theorem dL_law_609 : decode cL_law 609 = .ok (.aload_n 0, 1) := by decide +kernel
theorem dL_law_610 : decode cL_law 610 = .ok (.iload 4, 2) := by decide +kernel
theorem dL_law_612 : decode cL_law 612 = .ok (.iconst 1, 1) := by decide +kernel
theorem dL_law_613 : decode cL_law 613 = .ok (.iadd, 1) := by decide +kernel
theorem dL_law_614 : decode cL_law 614 = .ok (.iaload, 1) := by decide +kernel
theorem dL_law_615 : decode cL_law 615 = .ok (.aload_n 0, 1) := by decide +kernel
theorem dL_law_616 : decode cL_law 616 = .ok (.iload 4, 2) := by decide +kernel
theorem dL_law_618 : decode cL_law 618 = .ok (.iconst 2, 1) := by decide +kernel
theorem dL_law_619 : decode cL_law 619 = .ok (.iadd, 1) := by decide +kernel
theorem dL_law_620 : decode cL_law 620 = .ok (.iaload, 1) := by decide +kernel
theorem dL_law_621 : decode cL_law 621 = .ok (.invokevirtual 81, 3) := by decide +kernel
theorem dL_law_624 : decode cL_law 624 = .ok (.aload_n 2, 1) := by decide +kernel
theorem dL_law_625 : decode cL_law 625 = .ok (.aload_n 0, 1) := by decide +kernel
theorem dL_law_626 : decode cL_law 626 = .ok (.iload 4, 2) := by decide +kernel
theorem dL_law_628 : decode cL_law 628 = .ok (.iconst 1, 1) := by decide +kernel
theorem dL_law_629 : decode cL_law 629 = .ok (.iadd, 1) := by decide +kernel
theorem dL_law_630 : decode cL_law 630 = .ok (.iaload, 1) := by decide +kernel
theorem dL_law_631 : decode cL_law 631 = .ok (.aload_n 0, 1) := by decide +kernel
theorem dL_law_632 : decode cL_law 632 = .ok (.iload 4, 2) := by decide +kernel
theorem dL_law_634 : decode cL_law 634 = .ok (.iconst 2, 1) := by decide +kernel
theorem dL_law_635 : decode cL_law 635 = .ok (.iadd, 1) := by decide +kernel
theorem dL_law_636 : decode cL_law 636 = .ok (.iaload, 1) := by decide +kernel
theorem dL_law_637 : decode cL_law 637 = .ok (.invokevirtual 84, 3) := by decide +kernel
theorem dL_law_640 : decode cL_law 640 = .ok (.if_icmp .eq 335, 3) := by decide +kernel
theorem dL_law_643 : decode cL_law 643 = .ok (.iconst 0, 1) := by decide +kernel
theorem dL_law_644 : decode cL_law 644 = .ok (.ireturn, 1) := by decide +kernel
theorem dL_law_645 : decode cL_law 645 = .ok (.aload_n 1, 1) := by decide +kernel
theorem dL_law_646 : decode cL_law 646 = .ok (.aload_n 0, 1) := by decide +kernel
theorem dL_law_647 : decode cL_law 647 = .ok (.iload 4, 2) := by decide +kernel
theorem dL_law_649 : decode cL_law 649 = .ok (.iconst 1, 1) := by decide +kernel
theorem dL_law_650 : decode cL_law 650 = .ok (.iadd, 1) := by decide +kernel
theorem dL_law_651 : decode cL_law 651 = .ok (.iaload, 1) := by decide +kernel
theorem dL_law_652 : decode cL_law 652 = .ok (.aload_n 0, 1) := by decide +kernel
theorem dL_law_653 : decode cL_law 653 = .ok (.iload 4, 2) := by decide +kernel
theorem dL_law_655 : decode cL_law 655 = .ok (.iconst 2, 1) := by decide +kernel
theorem dL_law_656 : decode cL_law 656 = .ok (.iadd, 1) := by decide +kernel
theorem dL_law_657 : decode cL_law 657 = .ok (.iaload, 1) := by decide +kernel
theorem dL_law_658 : decode cL_law 658 = .ok (.invokevirtual 85, 3) := by decide +kernel
theorem dL_law_661 : decode cL_law 661 = .ok (.aload_n 2, 1) := by decide +kernel
theorem dL_law_662 : decode cL_law 662 = .ok (.aload_n 0, 1) := by decide +kernel
theorem dL_law_663 : decode cL_law 663 = .ok (.iload 4, 2) := by decide +kernel
theorem dL_law_665 : decode cL_law 665 = .ok (.iconst 1, 1) := by decide +kernel
theorem dL_law_666 : decode cL_law 666 = .ok (.iadd, 1) := by decide +kernel
theorem dL_law_667 : decode cL_law 667 = .ok (.iaload, 1) := by decide +kernel
theorem dL_law_668 : decode cL_law 668 = .ok (.aload_n 0, 1) := by decide +kernel
theorem dL_law_669 : decode cL_law 669 = .ok (.iload 4, 2) := by decide +kernel
theorem dL_law_671 : decode cL_law 671 = .ok (.iconst 2, 1) := by decide +kernel
theorem dL_law_672 : decode cL_law 672 = .ok (.iadd, 1) := by decide +kernel
theorem dL_law_673 : decode cL_law 673 = .ok (.iaload, 1) := by decide +kernel
theorem dL_law_674 : decode cL_law 674 = .ok (.invokevirtual 89, 3) := by decide +kernel
theorem dL_law_677 : decode cL_law 677 = .ok (.if_icmp .eq 298, 3) := by decide +kernel
theorem dL_law_680 : decode cL_law 680 = .ok (.iconst 0, 1) := by decide +kernel
theorem dL_law_681 : decode cL_law 681 = .ok (.ireturn, 1) := by decide +kernel
theorem dL_law_682 : decode cL_law 682 = .ok (.aload_n 1, 1) := by decide +kernel
theorem dL_law_683 : decode cL_law 683 = .ok (.aload_n 0, 1) := by decide +kernel
theorem dL_law_684 : decode cL_law 684 = .ok (.iload 4, 2) := by decide +kernel
theorem dL_law_686 : decode cL_law 686 = .ok (.iconst 1, 1) := by decide +kernel
theorem dL_law_687 : decode cL_law 687 = .ok (.iadd, 1) := by decide +kernel
theorem dL_law_688 : decode cL_law 688 = .ok (.iaload, 1) := by decide +kernel
theorem dL_law_689 : decode cL_law 689 = .ok (.aload_n 0, 1) := by decide +kernel
theorem dL_law_690 : decode cL_law 690 = .ok (.iload 4, 2) := by decide +kernel
theorem dL_law_692 : decode cL_law 692 = .ok (.iconst 2, 1) := by decide +kernel
theorem dL_law_693 : decode cL_law 693 = .ok (.iadd, 1) := by decide +kernel
theorem dL_law_694 : decode cL_law 694 = .ok (.iaload, 1) := by decide +kernel
theorem dL_law_695 : decode cL_law 695 = .ok (.aload_n 3, 1) := by decide +kernel
theorem dL_law_696 : decode cL_law 696 = .ok (.invokestatic 90, 3) := by decide +kernel
theorem dL_law_699 : decode cL_law 699 = .ok (.istore 5, 2) := by decide +kernel
theorem dL_law_701 : decode cL_law 701 = .ok (.aload_n 2, 1) := by decide +kernel
theorem dL_law_702 : decode cL_law 702 = .ok (.aload_n 0, 1) := by decide +kernel
theorem dL_law_703 : decode cL_law 703 = .ok (.iload 4, 2) := by decide +kernel
theorem dL_law_705 : decode cL_law 705 = .ok (.iconst 1, 1) := by decide +kernel
theorem dL_law_706 : decode cL_law 706 = .ok (.iadd, 1) := by decide +kernel
theorem dL_law_707 : decode cL_law 707 = .ok (.iaload, 1) := by decide +kernel
theorem dL_law_708 : decode cL_law 708 = .ok (.aload_n 0, 1) := by decide +kernel
theorem dL_law_709 : decode cL_law 709 = .ok (.iload 4, 2) := by decide +kernel
theorem dL_law_711 : decode cL_law 711 = .ok (.iconst 2, 1) := by decide +kernel
theorem dL_law_712 : decode cL_law 712 = .ok (.iadd, 1) := by decide +kernel
theorem dL_law_713 : decode cL_law 713 = .ok (.iaload, 1) := by decide +kernel
theorem dL_law_714 : decode cL_law 714 = .ok (.invokevirtual 95, 3) := by decide +kernel
theorem dL_law_717 : decode cL_law 717 = .ok (.lstore 6, 2) := by decide +kernel
theorem dL_law_719 : decode cL_law 719 = .ok (.aload_n 2, 1) := by decide +kernel
theorem dL_law_720 : decode cL_law 720 = .ok (.invokevirtual 96, 3) := by decide +kernel
theorem dL_law_723 : decode cL_law 723 = .ok (.iload 5, 2) := by decide +kernel
theorem dL_law_725 : decode cL_law 725 = .ok (.if_icmp .eq 5, 3) := by decide +kernel
theorem dL_law_728 : decode cL_law 728 = .ok (.iconst 0, 1) := by decide +kernel
theorem dL_law_729 : decode cL_law 729 = .ok (.ireturn, 1) := by decide +kernel
theorem dL_law_730 : decode cL_law 730 = .ok (.iload 5, 2) := by decide +kernel
theorem dL_law_732 : decode cL_law 732 = .ok (.ifCond .ne 14, 3) := by decide +kernel
theorem dL_law_735 : decode cL_law 735 = .ok (.aload_n 3, 1) := by decide +kernel
theorem dL_law_736 : decode cL_law 736 = .ok (.iconst 0, 1) := by decide +kernel
theorem dL_law_737 : decode cL_law 737 = .ok (.laload, 1) := by decide +kernel
theorem dL_law_738 : decode cL_law 738 = .ok (.lload 6, 2) := by decide +kernel
theorem dL_law_740 : decode cL_law 740 = .ok (.lcmp, 1) := by decide +kernel
theorem dL_law_741 : decode cL_law 741 = .ok (.ifCond .eq 5, 3) := by decide +kernel
theorem dL_law_744 : decode cL_law 744 = .ok (.iconst 0, 1) := by decide +kernel
theorem dL_law_745 : decode cL_law 745 = .ok (.ireturn, 1) := by decide +kernel
theorem dL_law_746 : decode cL_law 746 = .ok (.goto 229, 3) := by decide +kernel
theorem dL_law_749 : decode cL_law 749 = .ok (.aload_n 1, 1) := by decide +kernel
theorem dL_law_750 : decode cL_law 750 = .ok (.aload_n 0, 1) := by decide +kernel
theorem dL_law_751 : decode cL_law 751 = .ok (.iload 4, 2) := by decide +kernel
theorem dL_law_753 : decode cL_law 753 = .ok (.iconst 1, 1) := by decide +kernel
theorem dL_law_754 : decode cL_law 754 = .ok (.iadd, 1) := by decide +kernel
theorem dL_law_755 : decode cL_law 755 = .ok (.iaload, 1) := by decide +kernel
theorem dL_law_756 : decode cL_law 756 = .ok (.aload_n 0, 1) := by decide +kernel
theorem dL_law_757 : decode cL_law 757 = .ok (.iload 4, 2) := by decide +kernel
theorem dL_law_759 : decode cL_law 759 = .ok (.iconst 2, 1) := by decide +kernel
theorem dL_law_760 : decode cL_law 760 = .ok (.iadd, 1) := by decide +kernel
theorem dL_law_761 : decode cL_law 761 = .ok (.iaload, 1) := by decide +kernel
theorem dL_law_762 : decode cL_law 762 = .ok (.aload_n 0, 1) := by decide +kernel
theorem dL_law_763 : decode cL_law 763 = .ok (.iload 4, 2) := by decide +kernel
theorem dL_law_765 : decode cL_law 765 = .ok (.iconst 3, 1) := by decide +kernel
theorem dL_law_766 : decode cL_law 766 = .ok (.iadd, 1) := by decide +kernel
theorem dL_law_767 : decode cL_law 767 = .ok (.iaload, 1) := by decide +kernel
theorem dL_law_768 : decode cL_law 768 = .ok (.aload_n 0, 1) := by decide +kernel
theorem dL_law_769 : decode cL_law 769 = .ok (.iload 4, 2) := by decide +kernel
theorem dL_law_771 : decode cL_law 771 = .ok (.iconst 4, 1) := by decide +kernel
theorem dL_law_772 : decode cL_law 772 = .ok (.iadd, 1) := by decide +kernel
theorem dL_law_773 : decode cL_law 773 = .ok (.iaload, 1) := by decide +kernel
theorem dL_law_774 : decode cL_law 774 = .ok (.aload_n 3, 1) := by decide +kernel
theorem dL_law_775 : decode cL_law 775 = .ok (.invokestatic 99, 3) := by decide +kernel
theorem dL_law_778 : decode cL_law 778 = .ok (.istore 5, 2) := by decide +kernel
theorem dL_law_780 : decode cL_law 780 = .ok (.aload_n 2, 1) := by decide +kernel
theorem dL_law_781 : decode cL_law 781 = .ok (.aload_n 0, 1) := by decide +kernel
theorem dL_law_782 : decode cL_law 782 = .ok (.iload 4, 2) := by decide +kernel
theorem dL_law_784 : decode cL_law 784 = .ok (.iconst 1, 1) := by decide +kernel
theorem dL_law_785 : decode cL_law 785 = .ok (.iadd, 1) := by decide +kernel
theorem dL_law_786 : decode cL_law 786 = .ok (.iaload, 1) := by decide +kernel
theorem dL_law_787 : decode cL_law 787 = .ok (.aload_n 0, 1) := by decide +kernel
theorem dL_law_788 : decode cL_law 788 = .ok (.iload 4, 2) := by decide +kernel
theorem dL_law_790 : decode cL_law 790 = .ok (.iconst 2, 1) := by decide +kernel
theorem dL_law_791 : decode cL_law 791 = .ok (.iadd, 1) := by decide +kernel
theorem dL_law_792 : decode cL_law 792 = .ok (.iaload, 1) := by decide +kernel
theorem dL_law_793 : decode cL_law 793 = .ok (.aload_n 0, 1) := by decide +kernel
theorem dL_law_794 : decode cL_law 794 = .ok (.iload 4, 2) := by decide +kernel
theorem dL_law_796 : decode cL_law 796 = .ok (.iconst 3, 1) := by decide +kernel
theorem dL_law_797 : decode cL_law 797 = .ok (.iadd, 1) := by decide +kernel
theorem dL_law_798 : decode cL_law 798 = .ok (.iaload, 1) := by decide +kernel
theorem dL_law_799 : decode cL_law 799 = .ok (.aload_n 0, 1) := by decide +kernel
theorem dL_law_800 : decode cL_law 800 = .ok (.iload 4, 2) := by decide +kernel
theorem dL_law_802 : decode cL_law 802 = .ok (.iconst 4, 1) := by decide +kernel
theorem dL_law_803 : decode cL_law 803 = .ok (.iadd, 1) := by decide +kernel
theorem dL_law_804 : decode cL_law 804 = .ok (.iaload, 1) := by decide +kernel
theorem dL_law_805 : decode cL_law 805 = .ok (.invokevirtual 102, 3) := by decide +kernel
theorem dL_law_808 : decode cL_law 808 = .ok (.lstore 6, 2) := by decide +kernel
theorem dL_law_810 : decode cL_law 810 = .ok (.aload_n 2, 1) := by decide +kernel
theorem dL_law_811 : decode cL_law 811 = .ok (.invokevirtual 96, 3) := by decide +kernel
theorem dL_law_814 : decode cL_law 814 = .ok (.iload 5, 2) := by decide +kernel
theorem dL_law_816 : decode cL_law 816 = .ok (.if_icmp .eq 5, 3) := by decide +kernel
theorem dL_law_819 : decode cL_law 819 = .ok (.iconst 0, 1) := by decide +kernel
theorem dL_law_820 : decode cL_law 820 = .ok (.ireturn, 1) := by decide +kernel
theorem dL_law_821 : decode cL_law 821 = .ok (.iload 5, 2) := by decide +kernel
theorem dL_law_823 : decode cL_law 823 = .ok (.ifCond .ne 14, 3) := by decide +kernel
theorem dL_law_826 : decode cL_law 826 = .ok (.aload_n 3, 1) := by decide +kernel
theorem dL_law_827 : decode cL_law 827 = .ok (.iconst 0, 1) := by decide +kernel
theorem dL_law_828 : decode cL_law 828 = .ok (.laload, 1) := by decide +kernel
theorem dL_law_829 : decode cL_law 829 = .ok (.lload 6, 2) := by decide +kernel
theorem dL_law_831 : decode cL_law 831 = .ok (.lcmp, 1) := by decide +kernel
theorem dL_law_832 : decode cL_law 832 = .ok (.ifCond .eq 5, 3) := by decide +kernel
theorem dL_law_835 : decode cL_law 835 = .ok (.iconst 0, 1) := by decide +kernel
theorem dL_law_836 : decode cL_law 836 = .ok (.ireturn, 1) := by decide +kernel
theorem dL_law_837 : decode cL_law 837 = .ok (.goto 138, 3) := by decide +kernel
theorem dL_law_840 : decode cL_law 840 = .ok (.aload_n 1, 1) := by decide +kernel
theorem dL_law_841 : decode cL_law 841 = .ok (.aload_n 0, 1) := by decide +kernel
theorem dL_law_842 : decode cL_law 842 = .ok (.iload 4, 2) := by decide +kernel
theorem dL_law_844 : decode cL_law 844 = .ok (.iconst 1, 1) := by decide +kernel
theorem dL_law_845 : decode cL_law 845 = .ok (.iadd, 1) := by decide +kernel
theorem dL_law_846 : decode cL_law 846 = .ok (.iaload, 1) := by decide +kernel
theorem dL_law_847 : decode cL_law 847 = .ok (.aload_n 0, 1) := by decide +kernel
theorem dL_law_848 : decode cL_law 848 = .ok (.iload 4, 2) := by decide +kernel
theorem dL_law_850 : decode cL_law 850 = .ok (.iconst 2, 1) := by decide +kernel
theorem dL_law_851 : decode cL_law 851 = .ok (.iadd, 1) := by decide +kernel
theorem dL_law_852 : decode cL_law 852 = .ok (.iaload, 1) := by decide +kernel
theorem dL_law_853 : decode cL_law 853 = .ok (.aload_n 3, 1) := by decide +kernel
theorem dL_law_854 : decode cL_law 854 = .ok (.invokestatic 103, 3) := by decide +kernel
theorem dL_law_857 : decode cL_law 857 = .ok (.istore 5, 2) := by decide +kernel
theorem dL_law_859 : decode cL_law 859 = .ok (.aload_n 2, 1) := by decide +kernel
theorem dL_law_860 : decode cL_law 860 = .ok (.aload_n 0, 1) := by decide +kernel
theorem dL_law_861 : decode cL_law 861 = .ok (.iload 4, 2) := by decide +kernel
theorem dL_law_863 : decode cL_law 863 = .ok (.iconst 1, 1) := by decide +kernel
theorem dL_law_864 : decode cL_law 864 = .ok (.iadd, 1) := by decide +kernel
theorem dL_law_865 : decode cL_law 865 = .ok (.iaload, 1) := by decide +kernel
theorem dL_law_866 : decode cL_law 866 = .ok (.aload_n 0, 1) := by decide +kernel
theorem dL_law_867 : decode cL_law 867 = .ok (.iload 4, 2) := by decide +kernel
theorem dL_law_869 : decode cL_law 869 = .ok (.iconst 2, 1) := by decide +kernel
theorem dL_law_870 : decode cL_law 870 = .ok (.iadd, 1) := by decide +kernel
theorem dL_law_871 : decode cL_law 871 = .ok (.iaload, 1) := by decide +kernel
theorem dL_law_872 : decode cL_law 872 = .ok (.invokevirtual 105, 3) := by decide +kernel
theorem dL_law_875 : decode cL_law 875 = .ok (.istore 6, 2) := by decide +kernel
theorem dL_law_877 : decode cL_law 877 = .ok (.aload_n 2, 1) := by decide +kernel
theorem dL_law_878 : decode cL_law 878 = .ok (.invokevirtual 96, 3) := by decide +kernel
theorem dL_law_881 : decode cL_law 881 = .ok (.iload 5, 2) := by decide +kernel
theorem dL_law_883 : decode cL_law 883 = .ok (.if_icmp .eq 5, 3) := by decide +kernel
theorem dL_law_886 : decode cL_law 886 = .ok (.iconst 0, 1) := by decide +kernel
theorem dL_law_887 : decode cL_law 887 = .ok (.ireturn, 1) := by decide +kernel
theorem dL_law_888 : decode cL_law 888 = .ok (.iload 5, 2) := by decide +kernel
theorem dL_law_890 : decode cL_law 890 = .ok (.ifCond .ne 15, 3) := by decide +kernel
theorem dL_law_893 : decode cL_law 893 = .ok (.aload_n 3, 1) := by decide +kernel
theorem dL_law_894 : decode cL_law 894 = .ok (.iconst 0, 1) := by decide +kernel
theorem dL_law_895 : decode cL_law 895 = .ok (.laload, 1) := by decide +kernel
theorem dL_law_896 : decode cL_law 896 = .ok (.iload 6, 2) := by decide +kernel
theorem dL_law_898 : decode cL_law 898 = .ok (.i2l, 1) := by decide +kernel
theorem dL_law_899 : decode cL_law 899 = .ok (.lcmp, 1) := by decide +kernel
theorem dL_law_900 : decode cL_law 900 = .ok (.ifCond .eq 5, 3) := by decide +kernel
theorem dL_law_903 : decode cL_law 903 = .ok (.iconst 0, 1) := by decide +kernel
theorem dL_law_904 : decode cL_law 904 = .ok (.ireturn, 1) := by decide +kernel
theorem dL_law_905 : decode cL_law 905 = .ok (.goto 70, 3) := by decide +kernel
theorem dL_law_908 : decode cL_law 908 = .ok (.aload_n 1, 1) := by decide +kernel
theorem dL_law_909 : decode cL_law 909 = .ok (.aload_n 0, 1) := by decide +kernel
theorem dL_law_910 : decode cL_law 910 = .ok (.iload 4, 2) := by decide +kernel
theorem dL_law_912 : decode cL_law 912 = .ok (.iconst 1, 1) := by decide +kernel
theorem dL_law_913 : decode cL_law 913 = .ok (.iadd, 1) := by decide +kernel
theorem dL_law_914 : decode cL_law 914 = .ok (.iaload, 1) := by decide +kernel
theorem dL_law_915 : decode cL_law 915 = .ok (.aload_n 0, 1) := by decide +kernel
theorem dL_law_916 : decode cL_law 916 = .ok (.iload 4, 2) := by decide +kernel
theorem dL_law_918 : decode cL_law 918 = .ok (.iconst 2, 1) := by decide +kernel
theorem dL_law_919 : decode cL_law 919 = .ok (.iadd, 1) := by decide +kernel
theorem dL_law_920 : decode cL_law 920 = .ok (.iaload, 1) := by decide +kernel
theorem dL_law_921 : decode cL_law 921 = .ok (.aload_n 3, 1) := by decide +kernel
theorem dL_law_922 : decode cL_law 922 = .ok (.invokestatic 106, 3) := by decide +kernel
theorem dL_law_925 : decode cL_law 925 = .ok (.istore 5, 2) := by decide +kernel
theorem dL_law_927 : decode cL_law 927 = .ok (.aload_n 2, 1) := by decide +kernel
theorem dL_law_928 : decode cL_law 928 = .ok (.aload_n 0, 1) := by decide +kernel
theorem dL_law_929 : decode cL_law 929 = .ok (.iload 4, 2) := by decide +kernel
theorem dL_law_931 : decode cL_law 931 = .ok (.iconst 1, 1) := by decide +kernel
theorem dL_law_932 : decode cL_law 932 = .ok (.iadd, 1) := by decide +kernel
theorem dL_law_933 : decode cL_law 933 = .ok (.iaload, 1) := by decide +kernel
theorem dL_law_934 : decode cL_law 934 = .ok (.aload_n 0, 1) := by decide +kernel
theorem dL_law_935 : decode cL_law 935 = .ok (.iload 4, 2) := by decide +kernel
theorem dL_law_937 : decode cL_law 937 = .ok (.iconst 2, 1) := by decide +kernel
theorem dL_law_938 : decode cL_law 938 = .ok (.iadd, 1) := by decide +kernel
theorem dL_law_939 : decode cL_law 939 = .ok (.iaload, 1) := by decide +kernel
theorem dL_law_940 : decode cL_law 940 = .ok (.invokevirtual 108, 3) := by decide +kernel
theorem dL_law_943 : decode cL_law 943 = .ok (.lstore 6, 2) := by decide +kernel
theorem dL_law_945 : decode cL_law 945 = .ok (.aload_n 2, 1) := by decide +kernel
theorem dL_law_946 : decode cL_law 946 = .ok (.invokevirtual 96, 3) := by decide +kernel
theorem dL_law_949 : decode cL_law 949 = .ok (.iload 5, 2) := by decide +kernel
theorem dL_law_951 : decode cL_law 951 = .ok (.if_icmp .eq 5, 3) := by decide +kernel
theorem dL_law_954 : decode cL_law 954 = .ok (.iconst 0, 1) := by decide +kernel
theorem dL_law_955 : decode cL_law 955 = .ok (.ireturn, 1) := by decide +kernel
theorem dL_law_956 : decode cL_law 956 = .ok (.iload 5, 2) := by decide +kernel
theorem dL_law_958 : decode cL_law 958 = .ok (.ifCond .ne 14, 3) := by decide +kernel
theorem dL_law_961 : decode cL_law 961 = .ok (.aload_n 3, 1) := by decide +kernel
theorem dL_law_962 : decode cL_law 962 = .ok (.iconst 0, 1) := by decide +kernel
theorem dL_law_963 : decode cL_law 963 = .ok (.laload, 1) := by decide +kernel
theorem dL_law_964 : decode cL_law 964 = .ok (.lload 6, 2) := by decide +kernel
theorem dL_law_966 : decode cL_law 966 = .ok (.lcmp, 1) := by decide +kernel
theorem dL_law_967 : decode cL_law 967 = .ok (.ifCond .eq 5, 3) := by decide +kernel
theorem dL_law_970 : decode cL_law 970 = .ok (.iconst 0, 1) := by decide +kernel
theorem dL_law_971 : decode cL_law 971 = .ok (.ireturn, 1) := by decide +kernel
theorem dL_law_972 : decode cL_law 972 = .ok (.goto 3, 3) := by decide +kernel
theorem dL_law_975 : decode cL_law 975 = .ok (.iinc 4 6, 3) := by decide +kernel
theorem dL_law_978 : decode cL_law 978 = .ok (.goto (-955), 3) := by decide +kernel
theorem dL_law_981 : decode cL_law 981 = .ok (.iconst 1, 1) := by decide +kernel
theorem dL_law_982 : decode cL_law 982 = .ok (.ireturn, 1) := by decide +kernel
end
section
/-! THE MEMORY: the law's whole world as two functions (ints, longs) of address and place, and a map of shapes. -/
abbrev MI : Type := Nat → Nat → Int32
abbrev ML : Type := Nat → Nat → Int64
/-- what a cell is, out of its row of ints and its row of longs -/
abbrev Shp : Type := (Nat → Int32) → (Nat → Int64) → va_E
abbrev SH : Type := Nat → Option Shp
/-- the classes' numbers and slots; the array classes; the first address that is ours -/
abbrev GX : Type := va_G × (Nat → ClassId) × Nat
abbrev mtys (cy : Nat → ClassId) : List (ClassId × FieldType) := [(cy 0, .int), (cy 1, .boolean), (cy 2, .char), (cy 3, .long), (cy 4, .object RX0), (cy 5, .object RX4), (cy 6, .object RX5), (cy 7, .array .int)]
def mA (G : GX) : Nat → Prop := fun q => G.2.2 ≤ q
def mM (G : GX) (Sh : SH) (I : MI) (L : ML) (H : Heap) : Prop := ∀ (a : Nat) (f : Shp), Sh a = some f → G.2.2 ≤ a ∧ va_at G.1 vwCl (a, f (I a) (L a)) H
/-- the words that no method's own list can bear: members of nest mates, classes of arrays of references -/
def wNx : Cond → Bool
  | .fieldLinkNest .. => true
  | .methodLinkNest .. => true
  | _ => false
def wOx : Cond → Bool
  | .arrayOver (.object _) => true
  | .arrayOver (.array _) => true
  | _ => false
def wNs (U : State) : Prop := (∀ w ∈ wsN, va_Nw w U) ∧ ∀ w ∈ wsO, va_Nw w U
theorem wNs_all : wsN.all wNx = true := by decide +kernel
theorem wOs_all : wsO.all wOx = true := by decide +kernel
theorem wOx_moved {w : Cond} {u U : State} (hw : wOx w = true) (hvm : u.vm.Alike U.vm) (h : va_Nw w u) : va_Nw w U := by
  cases w with
  | arrayOver t =>
    cases t with
    | object C => exact va_AO.moved hvm h
    | array t => exact Jvm.Stand.arrayOver_alikeB hvm h
    | _ => cases hw
  | _ => cases hw
theorem wNx_tab {w : Cond} (h : wNx w = true) : w.onTables = true := by
  cases w with
  | fieldLinkNest => rfl
  | methodLinkNest => rfl
  | _ => cases h
theorem wNs.warm {s U : State} (hW : s.WarmedH U.vm) (h : wNs s) : wNs U := by
  refine ⟨fun w hw => ?_, fun w hw => wOx_moved (List.all_eq_true.mp wOs_all w hw) hW.alike (h.2 w hw)⟩
  have h1 := h.1 w hw
  have h2 := List.all_eq_true.mp wNs_all w hw
  cases w with
  | fieldLinkNest => exact va_Nw.warmF hW h1
  | methodLinkNest => exact va_Nw.warmM hW h1
  | _ => cases h2
theorem wNs.same {u U : State} (e : u.vm = U.vm) (h : wNs u) : wNs U := ⟨fun w hw => va_Nw.same (wNx_tab (List.all_eq_true.mp wNs_all w hw)) e (h.1 w hw), fun w hw => wOx_moved (List.all_eq_true.mp wOs_all w hw) (by rw [e]; exact Vm.Alike.refl U.vm) (h.2 w hw)⟩
def mB (G : GX) (Sh : SH) (I : MI) (L : ML) (U : State) : Prop := mM G Sh I L U.heap ∧ va_K G.1 vwCl (mtys G.2.1) U ∧ G.2.2 ≤ U.heap.size ∧ wNs U
def mW (G : GX) (Sh : SH) (s : State) (I : MI) (L : ML) (H : Heap) (locs : List Loc) : Prop := mM G Sh I L H ∧ va_K G.1 vwCl (mtys G.2.1) s ∧ va_S (mA G) s.heap H locs ∧ G.2.2 ≤ s.heap.size ∧ wNs s
def mu (I : MI) (a k : Nat) (v : Int32) : MI := fun b => if b = a then upd (I a) k v else I b
def mul (L : ML) (a k : Nat) (v : Int64) : ML := fun b => if b = a then vp_updL (L a) k v else L b
theorem mu_at (I : MI) (a k : Nat) (v : Int32) : mu I a k v a = upd (I a) k v := if_pos rfl
theorem mu_off {I : MI} {a k b : Nat} {v : Int32} (h : b ≠ a) : mu I a k v b = I b := if_neg h
theorem mul_at (L : ML) (a k : Nat) (v : Int64) : mul L a k v a = vp_updL (L a) k v := if_pos rfl
theorem mul_off {L : ML} {a k b : Nat} {v : Int64} (h : b ≠ a) : mul L a k v b = L b := if_neg h
-- the shapes
def sGlue : Shp := fun i _ => .inr (2, [.int (i 0), .int (i 1), .int (i 2), .int (i 3), .int (i 4)])
def sLast (r : Nat) : Shp := fun i j => .inr (3, [.ref (r + 1), .ref (r + 2), .ref (r + 3), .ref (r + 4), .ref (r + 5), .ref (r + 6), .ref (r + 7), .int (i 7), .int (i 8), .long (j 9), .long (j 10), .int (i 11), .long (j 12)])
def sNeeds (r : Nat) : Shp := fun _ _ => .inr (4, [.ref (r + 1)])
def sPre (r : Nat) : Shp := fun i _ => .inr (5, [.ref (r + 1), .ref (r + 2), .ref (r + 3), .int (i 3), .int (i 4), .int (i 5), .int (i 6), .int (i 7)])
def sRow (r : Nat) : Shp := fun i _ => .inr (6, [.ref (r + 1), .ref (r + 2), .ref (r + 3), .int (i 3), .int (i 4)])
def sTable (r : Nat) : Shp := fun i _ => .inr (7, [.ref (r + 1), .ref (r + 5), .ref (r + 6), .ref (r + 7), .ref (r + 8), .int (i 5), .int (i 6), .int (i 7), .int (i 8)])
def sX (r : Nat) : Shp := fun i _ => .inr (8, [.ref (r + 1), .int (i 1)])
def sModel (r : Nat) : Shp := fun i _ => .inr (9, [.int (i 0), .int (i 1), .ref (r + 1), .ref (r + 2), .ref (r + 3), .ref (r + 4), .ref (r + 5), .ref (r + 6), .ref (r + 7), .ref (r + 8), .ref (r + 9), .ref (r + 10), .ref (r + 11), .ref (r + 12), .ref (r + 13), .ref (r + 14), .ref (r + 15), .ref (r + 16), .ref (r + 17), .ref (r + 18), .ref (r + 19), .ref (r + 20), .ref (r + 21), .ref (r + 22), .ref (r + 23), .ref (r + 24), .ref (r + 25), .ref (r + 26), .ref (r + 27), .ref (r + 28), .ref (r + 29), .ref (r + 30), .ref (r + 31), .ref (r + 32), .ref (r + 33), .ref (r + 34), .int (i 36), .int (i 37)])
def sI (G : GX) (n : Nat) : Shp := fun i _ => .inl (G.2.1 0, n, .inl i)
def sZ (G : GX) (n : Nat) : Shp := fun i _ => .inl (G.2.1 1, n, .inl i)
def sC (G : GX) (n : Nat) : Shp := fun i _ => .inl (G.2.1 2, n, .inl i)
def sJ (G : GX) (n : Nat) : Shp := fun _ j => .inl (G.2.1 3, n, .inr (.inl j))
def sQ (G : GX) (k n : Nat) (F : Nat → Option Nat) : Shp := fun _ _ => .inl (G.2.1 k, n, .inr (.inr (.inr (.inr F))))
-- what an object is with all that it owns
def isNeeds (G : GX) (Sh : SH) (r : Nat) : Prop := Sh r = some (sNeeds r) ∧ Sh (r + 1) = some (sQ G 7 24 (fun i => if i < 24 then some (r + 2 + i) else none)) ∧ ∀ i, i < 24 → Sh (r + 2 + i) = some (sI G 9)
def isPre (G : GX) (Sh : SH) (r : Nat) : Prop := Sh r = some (sPre r) ∧ Sh (r + 1) = some (sC G 40) ∧ Sh (r + 2) = some (sI G 12) ∧ Sh (r + 3) = some (sI G 12)
def isRow (G : GX) (Sh : SH) (r : Nat) : Prop := Sh r = some (sRow r) ∧ Sh (r + 1) = some (sI G 24) ∧ Sh (r + 2) = some (sI G 24) ∧ Sh (r + 3) = some (sI G 24)
def isLast (G : GX) (Sh : SH) (r : Nat) : Prop := Sh r = some (sLast r) ∧ Sh (r + 1) = some (sI G 24) ∧ Sh (r + 2) = some (sZ G 24) ∧ Sh (r + 3) = some (sJ G 24) ∧ Sh (r + 4) = some (sI G 25) ∧ Sh (r + 5) = some (sI G 25) ∧ Sh (r + 6) = some (sI G 25) ∧ isNeeds G Sh (r + 7)
def isTable (G : GX) (Sh : SH) (r : Nat) : Prop := Sh r = some (sTable r) ∧ isPre G Sh (r + 1) ∧ Sh (r + 5) = some (sQ G 4 13 (fun i => if i < 13 then some (r + 41 + i) else none)) ∧ Sh (r + 6) = some (sQ G 5 20 (fun i => if i < 20 then some (r + 54 + 4 * i) else none)) ∧ Sh (r + 7) = some (sI G 40) ∧ isLast G Sh (r + 8) ∧ (∀ i, i < 13 → Sh (r + 41 + i) = some sGlue) ∧ ∀ i, i < 20 → isRow G Sh (r + 54 + 4 * i)
def isX (G : GX) (Sh : SH) (r : Nat) (F : Nat → Option Nat) : Prop := Sh r = some (sX r) ∧ Sh (r + 1) = some (sQ G 6 6 F)
def isModel (G : GX) (Sh : SH) (r : Nat) : Prop := Sh r = some (sModel r) ∧ Sh (r + 1) = some (sI G 240) ∧ Sh (r + 2) = some (sI G 6) ∧ Sh (r + 3) = some (sZ G 6) ∧ Sh (r + 4) = some (sI G 6) ∧ Sh (r + 5) = some (sI G 6) ∧ Sh (r + 6) = some (sI G 72) ∧ Sh (r + 7) = some (sI G 72) ∧ Sh (r + 8) = some (sI G 78) ∧ Sh (r + 9) = some (sI G 78) ∧ Sh (r + 10) = some (sI G 78) ∧ Sh (r + 11) = some (sI G 78) ∧ Sh (r + 12) = some (sI G 78) ∧ Sh (r + 13) = some (sI G 6) ∧ Sh (r + 14) = some (sZ G 6) ∧ Sh (r + 15) = some (sI G 120) ∧ Sh (r + 16) = some (sI G 120) ∧ Sh (r + 17) = some (sI G 6) ∧ Sh (r + 18) = some (sI G 2880) ∧ Sh (r + 19) = some (sI G 2880) ∧ Sh (r + 20) = some (sI G 2880) ∧ Sh (r + 21) = some (sI G 6) ∧ Sh (r + 22) = some (sI G 240) ∧ Sh (r + 23) = some (sI G 6) ∧ Sh (r + 24) = some (sI G 6) ∧ Sh (r + 25) = some (sI G 6) ∧ Sh (r + 26) = some (sI G 144) ∧ Sh (r + 27) = some (sZ G 144) ∧ Sh (r + 28) = some (sJ G 144) ∧ Sh (r + 29) = some (sJ G 6) ∧ Sh (r + 30) = some (sJ G 6) ∧ Sh (r + 31) = some (sI G 6) ∧ Sh (r + 32) = some (sJ G 6) ∧ Sh (r + 33) = some (sI G 480) ∧ Sh (r + 34) = some (sI G 480)
theorem mB.moved {G : GX} {Sh : SH} {I : MI} {L : ML} {U : State} (h : mB G Sh I L U) (g : JFrame) (mk : MethodId) (a : Array Value) : mB G Sh I L (U.calling g mk a) := ⟨h.1, va_K.moved (u := U) (U := U.calling g mk a) (Vm.Alike.refl U.vm) h.2.1, h.2.2.1, wNs.same (u := U) (U := U.calling g mk a) rfl h.2.2.2⟩
theorem mB.blind {G : GX} {Sh : SH} {I : MI} {L : ML} {av : List Value} : FrameBlind (va_Pc av (mB G Sh I L)) := fun a U g mk h => ⟨h.1, h.2.moved g mk a⟩
theorem mB.start {G : GX} {Sh : SH} {I : MI} {L : ML} {s : State} (h : mB G Sh I L s) : mW G Sh s I L s.heap [] := ⟨h.1, h.2.1, va_S.rf, h.2.2.1, h.2.2.2⟩
theorem mW.ends {G : GX} {Sh : SH} {I : MI} {L : ML} {s t : State} {H : Heap} {locs : List Loc} (h : mW G Sh s I L H locs) (ht : t.heap = H) (hW : s.WarmedH t.vm) : mB G Sh I L t ∧ va_F (mA G) s t := ⟨⟨by rw [ht]; exact h.1, va_K.moved hW.alike h.2.1, by rw [ht]; exact Nat.le_trans h.2.2.2.1 h.2.2.1.1, wNs.warm hW h.2.2.2.2⟩, h.2.2.1.F ht⟩
theorem mW.one {G : GX} {Sh : SH} {I : MI} {L : ML} {s : State} {H : Heap} {locs : List Loc} (h : mW G Sh s I L H locs) {a : Nat} {f : Shp} (hs : Sh a = some f) : va_P G.1 vwCl [(a, f (I a) (L a))] H := by
  intro k q hk
  cases k with
  | zero => cases hk; exact (h.1 a f hs).2
  | succ k => cases hk
theorem mW.recv {G : GX} {Sh : SH} {I : MI} {L : ML} {s : State} {H : Heap} {locs : List Loc} (h : mW G Sh s I L H locs) {a : Nat} {f : Shp} (hs : Sh a = some f) {ci : Nat} {fs : List Value} {q : vw_C} (hf : f (I a) (L a) = .inr (ci, fs)) (hc : vwCl[ci]? = some q) : ∃ cell : Cell, H[a]? = some cell ∧ cell.vm.isStatics = false ∧ s.vm.findClass q.1 = some cell.cls :=
  va_recv h.2.1 (h.one hs) hc (q0 := 0) (by rw [hf]; rfl)
theorem vp_lt {i : Int32} {n : Nat} (h : vp_in i n) : i.toNatClampNeg < n := Nat.not_le.mp fun q => h (Or.inr q)
theorem nar_z {v : Int32} (h : v = 0 ∨ v = 1) : narrow .boolean (.int v) = .int v := by
  rcases h with rfl | rfl <;> rfl
theorem fits_z {v : Int32} (h : v = 0 ∨ v = 1) : fits .boolean (.int v) = true := by
  rcases h with rfl | rfl <;> rfl
theorem mW.nw {G : GX} {Sh : SH} {I : MI} {L : ML} {s : State} {H : Heap} {locs : List Loc} (h : mW G Sh s I L H locs) {w : Cond} (hw : w ∈ wsN) : va_Nw w s := h.2.2.2.2.1 w hw
theorem mW.nest {G : GX} {Sh : SH} {I : MI} {L : ML} {s : State} {H : Heap} {locs : List Loc} {args : Array Value} (h : mW G Sh s I L H locs) {w : Cond} (hw : w ∈ wsN) (ht : w.onTables = true) : w.before args s = true := va_Nw.use ht (h.2.2.2.2.1 w hw)
/-- one cell is written -/
theorem mW.wr {G : GX} {Sh : SH} {I I1 : MI} {L L1 : ML} {s : State} {H H1 : Heap} {locs : List Loc} (h : mW G Sh s I L H locs) {a k : Nat} {f : Shp} (hs : Sh a = some f) (he : va_at G.1 vwCl (a, f (I1 a) (L1 a)) H1) (hI : ∀ b, b ≠ a → I1 b = I b) (hL : ∀ b, b ≠ a → L1 b = L b) (z : H1.size = H.size) (oq : ∀ q : Nat, q ≠ a → H1[q]? = H[q]?) : mW G Sh s I1 L1 H1 (locs ++ [⟨a, k⟩]) := by
  refine ⟨fun b g hb => ?_, h.2.1, h.2.2.1.put z oq (h.1 a f hs).1, h.2.2.2⟩
  refine ⟨(h.1 b g hb).1, ?_⟩
  by_cases e : b = a
  · subst e
    cases hs.symm.trans hb
    exact he
  · have := (h.1 b g hb).2
    rw [hI b e, hL b e]
    exact this.kept (oq b e)
def rmA (f l : Nat) : Room := { frames := f, cells := 0, slots := 0, locals := l }
def wM (y : MethodName) (c : ByteArray) (n : Nat) (r : Option FieldType) : List Cond := Cond.code y c n r :: wsA
section LK
variable {own C : String} {idx n : Nat} {y : MethodName} {c : ByteArray} {r : Option FieldType}
theorem lk_C (h5 : Cond.code y c n r ∈ wsA) : GoodIn wsA (wM y c n r) := wsA_G fun w h => (List.mem_cons.mp h).elim (fun e => by rw [e]; exact h5) id
theorem lk_V (h1 : Cond.methodLink own idx y ∈ wsA) (h2 : Cond.instanceMethod y ∈ wsA) (h3 : Cond.selects C y y ∈ wsA) (h4 : Cond.initialized C ∈ wsA) (h5 : Cond.code y c n r ∈ wsA) : GoodIn wsA (wsV own idx C y (wM y c n r)) := by
  refine wsA_G fun w h => ?_
  rcases List.mem_append.mp h with h | h
  · simp only [List.mem_cons, List.mem_nil_iff, or_false] at h
    rcases h with rfl | rfl | rfl | rfl <;> assumption
  · exact (lk_C h5 w h).1
theorem lk_S (h1 : Cond.methodLink own idx y ∈ wsA) (h2 : Cond.static y ∈ wsA) (h4 : Cond.initialized y.cls ∈ wsA) (h5 : Cond.code y c n r ∈ wsA) : GoodIn wsA (va_wsS own idx y (wM y c n r)) := by
  refine wsA_G fun w h => ?_
  rcases List.mem_append.mp h with h | h
  · simp only [List.mem_cons, List.mem_nil_iff, or_false] at h
    rcases h with rfl | rfl | rfl <;> assumption
  · exact (lk_C h5 w h).1
end LK
/-- what a walk stands on -/
def Cx (p : Program) (s : State) (m : MethodId) (args : Array Value) (meth : Method) (c : Code) (cc : ByteArray) (ret : Option FieldType) (nL : Nat) (own : String) : Prop := p.tables.exec = Jvm.exec ∧ c.code = cc ∧ meth.sig.returnType = ret ∧ c.maxLocals = nL ∧ s.vm.findClass own = some m.cls ∧ (∀ w ∈ wsA, w.before args s = true) ∧ meth.locks = false
theorem ofA {l : Launch} {y : MethodName} {cc : ByteArray} {maxL : Nat} {ret : Option FieldType} {rm : Room} {own : String} {G : GX} {Sh : SH} {av : List Value} {I : MI} {L : ML} {Qc : Array Value → State → Outcome → State → Prop} (hy : plainName y.cls = true) (ho : y.cls = own) (hlen : (lg_sl av).length ≤ maxL)
    (body : ∀ p e s m args below meth c ls, Cx p s m args meth c cc ret maxL own → mW G Sh s I L s.heap [] → lv_has ls maxL (lv_args 0 av) → W p l e rm s m args below meth c s.heap [] 0 0 (MQ below Qc args s 0 0 (mA G)) (F0 m 0 ls [])) : Met l y (wM y cc maxL ret) rm (va_Pc av (mB G Sh I L)) Qc 0 0 (mA G) := by
  refine Met.ofW (cc := cc) (maxL := maxL) (ret := ret) hy rfl ?_
  intro p e s m args below meth c s₁ B hml hv
  obtain ⟨rfl, hv⟩ := hv
  have hts0 := atoms_spec (ws := wM y cc maxL ret) B.pre
  have hown : s.vm.findClass own = some m.cls := by rw [← ho]; exact findClass_of_methodNamed B.named
  have hl := lv_entry av (n := maxL) hlen
  rw [lg_entry_eq]
  generalize (lg_sl av ++ List.replicate (maxL - (lg_sl av).length) Slot.unset).toArray = ls at hl ⊢
  exact body p e s m _ below meth c ls ⟨B.exec, B.bytes, B.returns, hml, hown, fun w h => hts0 w (List.mem_cons_of_mem _ h), B.notSynchronized⟩ hv.start hl
section MR
variable {p : Program} {l : Launch} {e : Env} {R : Room} {s : State} {m : MethodId} {args : Array Value} {below : List Frame} {meth : Method} {c : Code} {H : Heap} {locs : List Loc} {cells slots : Nat} {Q : State → Prop}
variable {cc : ByteArray} {pc : Nat} {ls : Array Slot} {rest : List Value} {a : Nat} {Ts : List Cond} {G : GX} {Sh : SH} {I : MI} {L : ML} {f : Shp}
theorem r_get (hx : p.tables.exec = Jvm.exec) (hb : c.code = cc) (hts : ∀ w ∈ Ts, w.before args s = true) {own ref C : String} {T : u_T} {N ci index : Nat} (hown : s.vm.findClass own = some m.cls) (hin : ∀ w ∈ u_ws C T N, w ∈ Ts) (hw : mW G Sh s I L H locs) (hs : Sh a = some f) {fs : List Value} (hf : f (I a) (L a) = .inr (ci, fs)) (hc : vwCl[ci]? = some (C, T, N)) (k : Nat) (hk : k < N) (hlink : (Cond.fieldLink own index ref (T k).2.1 (T k).2.2.1).before args s = true) (hsame : (T k).1 = ref) {v : Value} (hv : fs[k]? = some v) (hdg : decode cc pc = .ok (.getfield index, 3))
    (kk : W p l e R s m args below meth c H locs cells slots Q (F0 m (pc + 3) ls (v :: rest))) : W p l e R s m args below meth c H locs cells slots Q (F0 m pc ls (.ref a :: rest)) :=
  va_get hx hb hts hin hown hw.2.1 (hw.one hs) 0 (by rw [hf]; rfl) hc k hk hlink (fun x h => by rw [← hsame]; exact h) hv hdg kk
theorem r_getN (hx : p.tables.exec = Jvm.exec) (hb : c.code = cc) (hts : ∀ w ∈ Ts, w.before args s = true) {own ref C host : String} {T : u_T} {N ci index : Nat} (hown : s.vm.findClass own = some m.cls) (hin : ∀ w ∈ u_ws C T N, w ∈ Ts) (hw : mW G Sh s I L H locs) (hs : Sh a = some f) {fs : List Value} (hf : f (I a) (L a) = .inr (ci, fs)) (hc : vwCl[ci]? = some (C, T, N)) (k : Nat) (hk : k < N) (hlink : (Cond.fieldLinkNest own index ref (T k).2.1 (T k).2.2.1 host).before args s = true) (hsame : (T k).1 = ref) {v : Value} (hv : fs[k]? = some v) (hdg : decode cc pc = .ok (.getfield index, 3))
    (kk : W p l e R s m args below meth c H locs cells slots Q (F0 m (pc + 3) ls (v :: rest))) : W p l e R s m args below meth c H locs cells slots Q (F0 m pc ls (.ref a :: rest)) :=
  va_getN hx hb hts hin hown hw.2.1 (hw.one hs) 0 (by rw [hf]; rfl) hc k hk hlink (fun x h => by rw [← hsame]; exact h) hv hdg kk
theorem r_put (hx : p.tables.exec = Jvm.exec) (hb : c.code = cc) (hts : ∀ w ∈ Ts, w.before args s = true) {own ref C : String} {T : u_T} {N ci index : Nat} (hown : s.vm.findClass own = some m.cls) (hin : ∀ w ∈ u_ws C T N, w ∈ Ts) (ty0 : Nat → FieldType) (hty : ∀ k, k < N → parseFieldDescriptor (T k).2.2.1 = some (ty0 k)) (hnm : ∀ a, a < N → ∀ b, b < N → a ≠ b → (T a).2.1 ≠ (T b).2.1)
    (hw : mW G Sh s I L H locs) (hs : Sh a = some f) {fs : List Value} (hf : f (I a) (L a) = .inr (ci, fs)) (hc : vwCl[ci]? = some (C, T, N)) (k : Nat) (hk : k < N) (hlink : (Cond.fieldLink own index ref (T k).2.1 (T k).2.2.1).before args s = true) (hsame : (T k).1 = ref) (hfin : (T k).2.2.2 = false) {v : Value} (hn : narrow (ty0 k) v = v) (hfit : fits (ty0 k) v = true) (hl : k < fs.length) (I1 : MI) (L1 : ML) (hset : f (I1 a) (L1 a) = .inr (ci, fs.set k v)) (hI : ∀ b, b ≠ a → I1 b = I b) (hL : ∀ b, b ≠ a → L1 b = L b) (hdg : decode cc pc = .ok (.putfield index, 3))
    (kk : ∀ (H1 : Heap) (locs1 : List Loc), mW G Sh s I1 L1 H1 locs1 → W p l e R s m args below meth c H1 locs1 cells slots Q (F0 m (pc + 3) ls rest)) : W p l e R s m args below meth c H locs cells slots Q (F0 m pc ls (v :: .ref a :: rest)) := by
  have hK := hw.2.1
  have hap := va_apart (own := own) hts hin ty0 hty hnm hK hc
  have he := (hw.1 a f hs).2
  rw [hf] at he
  obtain ⟨r, h1, cell, q1, q2, q3, q4⟩ := he
  have hr : r = (C, T, N) := Option.some.inj (h1.symm.trans hc)
  subst hr
  obtain ⟨hS, hfc, kC, hkC, hkind⟩ := hK.1 ci _ hc
  obtain ⟨cf, kf, fi, fd, hi, hsl⟩ := hS k hk
  have hlay := hts _ (hin _ (u_in_lay hk))
  unfold u_lay at hlay
  rw [if_neg (by rw [hfin]; decide)] at hlay
  have hst := (u_facts hfc hkC (u_lays hts hin hk) hi).1
  have h6 := u_store hfc hkC hkind hlay hi (hty k hk) hn hfit
  have hi2 : s.fieldFound? ref (T k).2.1 (T k).2.2.1 = some (cf, kf, fi, fd) := by rw [← hsame]; exact hi
  refine W.putK hx hb (f := fd) ⟨hown, hlink, ⟨_, _, _, hi2⟩, hst⟩ (by rw [q2]; exact h6) q1 q3 (by rw [hsl]; exact k2_hasslot (q4 k hk)) rfl rfl hdg fun H' e1 e2 e3 => ?_
  rw [hsl] at e1 ⊢
  refine kk H' _ (hw.wr hs ?_ hI hL e2 e3)
  rw [hset]
  exact ⟨_, hc, t_OB.to (V := updV (vp_V fs) k v) ⟨_, e1, q2, q3, t_set q4 hap hk v⟩ (fun j _ => vp_updV_set hl v j)⟩
theorem r_puti (hx : p.tables.exec = Jvm.exec) (hb : c.code = cc) (hts : ∀ w ∈ Ts, w.before args s = true) {own ref C : String} {T : u_T} {N ci index : Nat} (hown : s.vm.findClass own = some m.cls) (hin : ∀ w ∈ u_ws C T N, w ∈ Ts) (ty0 : Nat → FieldType) (hty : ∀ k, k < N → parseFieldDescriptor (T k).2.2.1 = some (ty0 k)) (hnm : ∀ a, a < N → ∀ b, b < N → a ≠ b → (T a).2.1 ≠ (T b).2.1)
    (hw : mW G Sh s I L H locs) (hs : Sh a = some f) {fs : List Value} (hf : f (I a) (L a) = .inr (ci, fs)) (hc : vwCl[ci]? = some (C, T, N)) (k : Nat) (hk : k < N) (hlink : (Cond.fieldLink own index ref (T k).2.1 (T k).2.2.1).before args s = true) (hsame : (T k).1 = ref) (hfin : (T k).2.2.2 = false) {v : Int32} (hn : narrow (ty0 k) (.int v) = .int v) (hfit : fits (ty0 k) (.int v) = true) (hl : k < fs.length) (hset : f (upd (I a) k v) (L a) = .inr (ci, fs.set k (.int v))) (hdg : decode cc pc = .ok (.putfield index, 3))
    (kk : ∀ (I1 : MI) (H1 : Heap) (locs1 : List Loc), I1 = mu I a k v → mW G Sh s I1 L H1 locs1 → W p l e R s m args below meth c H1 locs1 cells slots Q (F0 m (pc + 3) ls rest)) : W p l e R s m args below meth c H locs cells slots Q (F0 m pc ls (.int v :: .ref a :: rest)) :=
  r_put hx hb hts hown hin ty0 hty hnm hw hs hf hc k hk hlink hsame hfin hn hfit hl (mu I a k v) L (by rw [mu_at]; exact hset) (fun _ h => mu_off h) (fun _ _ => rfl) hdg (fun H1 locs1 h => kk _ H1 locs1 rfl h)
theorem r_putj (hx : p.tables.exec = Jvm.exec) (hb : c.code = cc) (hts : ∀ w ∈ Ts, w.before args s = true) {own ref C : String} {T : u_T} {N ci index : Nat} (hown : s.vm.findClass own = some m.cls) (hin : ∀ w ∈ u_ws C T N, w ∈ Ts) (ty0 : Nat → FieldType) (hty : ∀ k, k < N → parseFieldDescriptor (T k).2.2.1 = some (ty0 k)) (hnm : ∀ a, a < N → ∀ b, b < N → a ≠ b → (T a).2.1 ≠ (T b).2.1)
    (hw : mW G Sh s I L H locs) (hs : Sh a = some f) {fs : List Value} (hf : f (I a) (L a) = .inr (ci, fs)) (hc : vwCl[ci]? = some (C, T, N)) (k : Nat) (hk : k < N) (hlink : (Cond.fieldLink own index ref (T k).2.1 (T k).2.2.1).before args s = true) (hsame : (T k).1 = ref) (hfin : (T k).2.2.2 = false) {v : Int64} (hn : narrow (ty0 k) (.long v) = .long v) (hfit : fits (ty0 k) (.long v) = true) (hl : k < fs.length) (hset : f (I a) (vp_updL (L a) k v) = .inr (ci, fs.set k (.long v))) (hdg : decode cc pc = .ok (.putfield index, 3))
    (kk : ∀ (L1 : ML) (H1 : Heap) (locs1 : List Loc), L1 = mul L a k v → mW G Sh s I L1 H1 locs1 → W p l e R s m args below meth c H1 locs1 cells slots Q (F0 m (pc + 3) ls rest)) : W p l e R s m args below meth c H locs cells slots Q (F0 m pc ls (.long v :: .ref a :: rest)) :=
  r_put hx hb hts hown hin ty0 hty hnm hw hs hf hc k hk hlink hsame hfin hn hfit hl I (mul L a k v) (by rw [mul_at]; exact hset) (fun _ _ => rfl) (fun _ h => mul_off h) hdg (fun H1 locs1 h => kk _ H1 locs1 rfl h)
theorem r_iald (hx : p.tables.exec = Jvm.exec) (hb : c.code = cc) (hw : mW G Sh s I L H locs) {n : Nat} (hs : Sh a = some (sI G n)) {i : Int32} (hin : vp_in i n) (hdg : decode cc pc = .ok (.iaload, 1))
    (kk : W p l e R s m args below meth c H locs cells slots Q (F0 m (pc + 1) ls (.int (I a i.toNatClampNeg) :: rest))) : W p l e R s m args below meth c H locs cells slots Q (F0 m pc ls (.int i :: .ref a :: rest)) :=
  va_iald hx hb hw.2.1 (hw.one hs) 0 0 rfl rfl hin hdg kk
theorem r_zald (hx : p.tables.exec = Jvm.exec) (hb : c.code = cc) (hw : mW G Sh s I L H locs) {n : Nat} (hs : Sh a = some (sZ G n)) {i : Int32} (hin : vp_in i n) (hdg : decode cc pc = .ok (.baload, 1))
    (kk : W p l e R s m args below meth c H locs cells slots Q (F0 m (pc + 1) ls (.int (I a i.toNatClampNeg) :: rest))) : W p l e R s m args below meth c H locs cells slots Q (F0 m pc ls (.int i :: .ref a :: rest)) :=
  va_zald hx hb hw.2.1 (hw.one hs) 0 1 rfl rfl hin hdg kk
theorem r_cald (hx : p.tables.exec = Jvm.exec) (hb : c.code = cc) (hw : mW G Sh s I L H locs) {n : Nat} (hs : Sh a = some (sC G n)) {i : Int32} (hin : vp_in i n) (hdg : decode cc pc = .ok (.caload, 1))
    (kk : W p l e R s m args below meth c H locs cells slots Q (F0 m (pc + 1) ls (.int (I a i.toNatClampNeg) :: rest))) : W p l e R s m args below meth c H locs cells slots Q (F0 m pc ls (.int i :: .ref a :: rest)) :=
  va_cald hx hb hw.2.1 (hw.one hs) 0 2 rfl rfl hin hdg kk
theorem r_lald (hx : p.tables.exec = Jvm.exec) (hb : c.code = cc) (hw : mW G Sh s I L H locs) {n : Nat} (hs : Sh a = some (sJ G n)) {i : Int32} (hin : vp_in i n) (hdg : decode cc pc = .ok (.laload, 1))
    (kk : W p l e R s m args below meth c H locs cells slots Q (F0 m (pc + 1) ls (.long (L a i.toNatClampNeg) :: rest))) : W p l e R s m args below meth c H locs cells slots Q (F0 m pc ls (.int i :: .ref a :: rest)) :=
  va_lald hx hb hw.2.1 (hw.one hs) 0 3 rfl rfl hin hdg kk
theorem r_alenI (hx : p.tables.exec = Jvm.exec) (hb : c.code = cc) (hw : mW G Sh s I L H locs) {n : Nat} {v : Int32} (hs : Sh a = some (sI G n)) (hv : Int32.ofNat n = v) (hdg : decode cc pc = .ok (.arraylength, 1))
    (kk : W p l e R s m args below meth c H locs cells slots Q (F0 m (pc + 1) ls (.int v :: rest))) : W p l e R s m args below meth c H locs cells slots Q (F0 m pc ls (.ref a :: rest)) :=
  va_alen hx hb hw.2.1 (hw.one hs) 0 0 rfl (ty := .int) rfl hv hdg kk
theorem r_alenQ (hx : p.tables.exec = Jvm.exec) (hb : c.code = cc) (hw : mW G Sh s I L H locs) {k n : Nat} {F : Nat → Option Nat} {v : Int32} {ty : FieldType} (hs : Sh a = some (sQ G k n F)) (ht : (mtys G.2.1)[k]? = some (G.2.1 k, ty)) (hv : Int32.ofNat n = v) (hdg : decode cc pc = .ok (.arraylength, 1))
    (kk : W p l e R s m args below meth c H locs cells slots Q (F0 m (pc + 1) ls (.int v :: rest))) : W p l e R s m args below meth c H locs cells slots Q (F0 m pc ls (.ref a :: rest)) :=
  va_alen hx hb hw.2.1 (hw.one hs) 0 k rfl ht hv hdg kk
theorem r_aald (hx : p.tables.exec = Jvm.exec) (hb : c.code = cc) (hw : mW G Sh s I L H locs) {k n : Nat} {F : Nat → Option Nat} {C : String} (hs : Sh a = some (sQ G k n F)) (ht : (mtys G.2.1)[k]? = some (G.2.1 k, .object C)) {i : Int32} (hin : vp_in i n) (hdg : decode cc pc = .ok (.aaload, 1))
    (kk : W p l e R s m args below meth c H locs cells slots Q (F0 m (pc + 1) ls (va_rf (F i.toNatClampNeg) :: rest))) : W p l e R s m args below meth c H locs cells slots Q (F0 m pc ls (.int i :: .ref a :: rest)) :=
  va_aldq hx hb hw.2.1 (hw.one hs) 0 k rfl ht hin hdg kk
/-- out of a row of rows of ints -/
theorem r_aaldR (hx : p.tables.exec = Jvm.exec) (hb : c.code = cc) (hw : mW G Sh s I L H locs) {n : Nat} {F : Nat → Option Nat} (hs : Sh a = some (sQ G 7 n F)) {i : Int32} (hin : vp_in i n) (hdg : decode cc pc = .ok (.aaload, 1))
    (kk : W p l e R s m args below meth c H locs cells slots Q (F0 m (pc + 1) ls (va_rf (F i.toNatClampNeg) :: rest))) : W p l e R s m args below meth c H locs cells slots Q (F0 m pc ls (.int i :: .ref a :: rest)) := by
  have hlt : i.toNatClampNeg < n := Nat.not_le.mp fun q => hin (Or.inr q)
  exact W.aald (v := va_rf (F i.toNatClampNeg)) (ty := .array .int) hx hb ((hw.one hs) 0 _ rfl) ((hw.2.1.2 7 (G.2.1 7, .array .int) rfl).1 n (fun j => va_rf (F j))) rfl (fun q => by cases q) (by show ¬ (i < 0 ∨ (arrV _ _ _).slots.size ≤ _); rw [arrV_size]; exact hin) (by show (arrV _ _ _).slots[_]? = _; rw [arrV_read _ _ hlt]) rfl rfl hdg kk
theorem r_aaldF (hx : p.tables.exec = Jvm.exec) (hb : c.code = cc) (hw : mW G Sh s I L H locs) {k n b : Nat} {F : Nat → Option Nat} {C : String} (hs : Sh a = some (sQ G k n F)) (ht : (mtys G.2.1)[k]? = some (G.2.1 k, .object C)) {i : Int32} (hin : vp_in i n) (hF : F i.toNatClampNeg = some b) (hdg : decode cc pc = .ok (.aaload, 1))
    (kk : W p l e R s m args below meth c H locs cells slots Q (F0 m (pc + 1) ls (.ref b :: rest))) : W p l e R s m args below meth c H locs cells slots Q (F0 m pc ls (.int i :: .ref a :: rest)) :=
  r_aald hx hb hw hs ht hin hdg (by rw [hF]; exact kk)
theorem r_aaldRF (hx : p.tables.exec = Jvm.exec) (hb : c.code = cc) (hw : mW G Sh s I L H locs) {n b : Nat} {F : Nat → Option Nat} (hs : Sh a = some (sQ G 7 n F)) {i : Int32} (hin : vp_in i n) (hF : F i.toNatClampNeg = some b) (hdg : decode cc pc = .ok (.aaload, 1))
    (kk : W p l e R s m args below meth c H locs cells slots Q (F0 m (pc + 1) ls (.ref b :: rest))) : W p l e R s m args below meth c H locs cells slots Q (F0 m pc ls (.int i :: .ref a :: rest)) :=
  r_aaldR hx hb hw hs hin hdg (by rw [hF]; exact kk)
theorem r_iast (hx : p.tables.exec = Jvm.exec) (hb : c.code = cc) (hw : mW G Sh s I L H locs) {n : Nat} (hs : Sh a = some (sI G n)) {i x : Int32} (hin : vp_in i n) (hdg : decode cc pc = .ok (.iastore, 1))
    (kk : ∀ (I1 : MI) (H1 : Heap) (locs1 : List Loc), I1 = mu I a i.toNatClampNeg x → mW G Sh s I1 L H1 locs1 → W p l e R s m args below meth c H1 locs1 cells slots Q (F0 m (pc + 1) ls rest)) : W p l e R s m args below meth c H locs cells slots Q (F0 m pc ls (.int x :: .int i :: .ref a :: rest)) := by
  refine W.iast hx hb ((hw.one hs) 0 _ rfl) ((hw.2.1.2 0 (G.2.1 0, .int) rfl).1 n (fun j => .int (I a j))) (fun q => by cases q) (by show ¬ (i < 0 ∨ (arrV _ _ _).slots.size ≤ _); rw [arrV_size]; exact hin) rfl rfl hdg fun H1 e z oq => ?_
  refine kk _ H1 _ rfl (hw.wr hs ?_ (fun _ h => mu_off h) (fun _ _ => rfl) z oq)
  show H1[a]? = some (vp_cell _ _)
  rw [e, mu_at]
  rw [vp_cell_i, vp_cell_i, arrV_store]
  congr 2
  funext q
  by_cases hq : q = i.toNatClampNeg
  · subst hq
    simp [updV, upd]
  · simp [updV, upd, hq]
theorem r_zast (hx : p.tables.exec = Jvm.exec) (hb : c.code = cc) (hw : mW G Sh s I L H locs) {n : Nat} (hs : Sh a = some (sZ G n)) {i x y : Int32} (hin : vp_in i n) (hy : x &&& 1 = y) (hdg : decode cc pc = .ok (.bastore, 1))
    (kk : ∀ (I1 : MI) (H1 : Heap) (locs1 : List Loc), I1 = mu I a i.toNatClampNeg y → mW G Sh s I1 L H1 locs1 → W p l e R s m args below meth c H1 locs1 cells slots Q (F0 m (pc + 1) ls rest)) : W p l e R s m args below meth c H locs cells slots Q (F0 m pc ls (.int x :: .int i :: .ref a :: rest)) := by
  refine W.zast hx hb ((hw.one hs) 0 _ rfl) ((hw.2.1.2 1 (G.2.1 1, .boolean) rfl).1 n (fun j => .int (I a j))) (fun q => by cases q) (by show ¬ (i < 0 ∨ (arrV _ _ _).slots.size ≤ _); rw [arrV_size]; exact hin) rfl rfl hdg fun H1 e z oq => ?_
  refine kk _ H1 _ rfl (hw.wr hs ?_ (fun _ h => mu_off h) (fun _ _ => rfl) z oq)
  show H1[a]? = some (vp_cell _ _)
  rw [e, mu_at]
  rw [vp_cell_i, vp_cell_i, arrV_store]
  congr 2
  funext q
  by_cases hq : q = i.toNatClampNeg
  · subst hq
    simp [updV, upd]
    exact congrArg Value.int hy
  · simp [updV, upd, hq]
theorem r_cast (hx : p.tables.exec = Jvm.exec) (hb : c.code = cc) (hw : mW G Sh s I L H locs) {n : Nat} (hs : Sh a = some (sC G n)) {i x y : Int32} (hin : vp_in i n) (hy : x.toUInt32.toUInt16.toUInt32.toInt32 = y) (hdg : decode cc pc = .ok (.castore, 1))
    (kk : ∀ (I1 : MI) (H1 : Heap) (locs1 : List Loc), I1 = mu I a i.toNatClampNeg y → mW G Sh s I1 L H1 locs1 → W p l e R s m args below meth c H1 locs1 cells slots Q (F0 m (pc + 1) ls rest)) : W p l e R s m args below meth c H locs cells slots Q (F0 m pc ls (.int x :: .int i :: .ref a :: rest)) := by
  refine W.cast hx hb ((hw.one hs) 0 _ rfl) ((hw.2.1.2 2 (G.2.1 2, .char) rfl).1 n (fun j => .int (I a j))) (fun q => by cases q) (by show ¬ (i < 0 ∨ (arrV _ _ _).slots.size ≤ _); rw [arrV_size]; exact hin) rfl rfl hdg fun H1 e z oq => ?_
  refine kk _ H1 _ rfl (hw.wr hs ?_ (fun _ h => mu_off h) (fun _ _ => rfl) z oq)
  show H1[a]? = some (vp_cell _ _)
  rw [e, mu_at]
  rw [vp_cell_i, vp_cell_i, arrV_store]
  congr 2
  funext q
  by_cases hq : q = i.toNatClampNeg
  · subst hq
    simp only [updV, upd, if_true]
    exact congrArg Value.int hy
  · simp [updV, upd, hq]
theorem r_last (hx : p.tables.exec = Jvm.exec) (hb : c.code = cc) (hw : mW G Sh s I L H locs) {n : Nat} (hs : Sh a = some (sJ G n)) {i : Int32} {x : Int64} (hin : vp_in i n) (hdg : decode cc pc = .ok (.lastore, 1))
    (kk : ∀ (L1 : ML) (H1 : Heap) (locs1 : List Loc), L1 = mul L a i.toNatClampNeg x → mW G Sh s I L1 H1 locs1 → W p l e R s m args below meth c H1 locs1 cells slots Q (F0 m (pc + 1) ls rest)) : W p l e R s m args below meth c H locs cells slots Q (F0 m pc ls (.long x :: .int i :: .ref a :: rest)) := by
  refine W.last hx hb ((hw.one hs) 0 _ rfl) ((hw.2.1.2 3 (G.2.1 3, .long) rfl).1 n (fun j => .long (L a j))) (fun q => by cases q) (by show ¬ (i < 0 ∨ (arrV _ _ _).slots.size ≤ _); rw [arrV_size]; exact hin) rfl rfl hdg fun H1 e z oq => ?_
  refine kk _ H1 _ rfl (hw.wr hs ?_ (fun _ _ => rfl) (fun _ h => mul_off h) z oq)
  show H1[a]? = some (vp_cell _ _)
  rw [e, mul_at]
  rw [vp_cell_l, vp_cell_l, arrV_store]
  congr 2
  funext q
  by_cases hq : q = i.toNatClampNeg
  · subst hq
    simp [updV, vp_updL]
  · simp [updV, vp_updL, hq]
end MR
-- contracts of methods that make nothing: an int (or truth value), a long, nothing, an address or null, an address
abbrev CtI (l : Launch) (y : MethodName) (ws : List Cond) (rm : Room) (G : GX) (Sh : SH) (av : List Value) (I : MI) (L : ML) (K : Int32 → MI → ML → Prop) : Prop := Met l y ws rm (va_Pc av (mB G Sh I L)) (va_Qi (fun (r : Int32) (u : MI × ML) => K r u.1 u.2) (fun (u : MI × ML) t => mB G Sh u.1 u.2 t) (mA G)) 0 0 (mA G)
abbrev CtL (l : Launch) (y : MethodName) (ws : List Cond) (rm : Room) (G : GX) (Sh : SH) (av : List Value) (I : MI) (L : ML) (K : Int64 → MI → ML → Prop) : Prop := Met l y ws rm (va_Pc av (mB G Sh I L)) (va_Ql (fun (r : Int64) (u : MI × ML) => K r u.1 u.2) (fun (u : MI × ML) t => mB G Sh u.1 u.2 t) (mA G)) 0 0 (mA G)
abbrev CtV (l : Launch) (y : MethodName) (ws : List Cond) (rm : Room) (G : GX) (Sh : SH) (av : List Value) (I : MI) (L : ML) (K : MI → ML → Prop) : Prop := Met l y ws rm (va_Pc av (mB G Sh I L)) (va_Qv (fun (u : MI × ML) => K u.1 u.2) (fun (u : MI × ML) t => mB G Sh u.1 u.2 t) (mA G)) 0 0 (mA G)
abbrev CtQ (l : Launch) (y : MethodName) (ws : List Cond) (rm : Room) (G : GX) (Sh : SH) (av : List Value) (I : MI) (L : ML) (K : Option Nat → MI → ML → Prop) : Prop := Met l y ws rm (va_Pc av (mB G Sh I L)) (va_Qq (fun (r : Option Nat) (u : MI × ML) => K r u.1 u.2) (fun (u : MI × ML) t => mB G Sh u.1 u.2 t) (mA G)) 0 0 (mA G)
section MC
variable {p : Program} {l : Launch} {e : Env} {R : Room} {s : State} {m : MethodId} {args : Array Value} {below : List Frame} {meth : Method} {c : Code} {H : Heap} {locs : List Loc} {cells slots : Nat} {Q : State → Prop}
variable {cc bytes : ByteArray} {pc maxL nL n index : Nat} {ret : Option FieldType} {ls : Array Slot} {rest As : List Value} {a : Nat} {Ts ws : List Cond} {rm : Room} {y : MethodName} {own C : String} {G : GX} {Sh : SH} {I : MI} {L : ML} {f : Shp}
theorem mW.preV (hw : mW G Sh s I L H locs) (hr : ∃ cell : Cell, H[a]? = some cell ∧ cell.vm.isStatics = false ∧ s.vm.findClass C = some cell.cls) : PreV s H C a (va_Pc (.ref a :: As) (mB G Sh I L)) As :=
  ⟨mB.blind, hr, fun U hU hW => ⟨rfl, by rw [hU]; exact hw.1, va_K.moved hW.alike hw.2.1, by rw [hU]; exact Nat.le_trans hw.2.2.2.1 hw.2.2.1.1, wNs.warm hW hw.2.2.2.2⟩⟩
theorem mW.preS (hw : mW G Sh s I L H locs) : PreS s H (va_Pc As (mB G Sh I L)) As :=
  ⟨mB.blind, fun U hU hW => ⟨rfl, by rw [hU]; exact hw.1, va_K.moved hW.alike hw.2.1, by rw [hU]; exact Nat.le_trans hw.2.2.2.1 hw.2.2.1.1, wNs.warm hW hw.2.2.2.2⟩⟩
theorem r_cvI {K : Int32 → MI → ML → Prop} (S : CallFix p m c cc nL s args Ts own) (hM : CtI l y ws rm G Sh (.ref a :: As) I L K) (cw : CallW R s args own C index y bytes maxL ret ws rm 0 0 n) (hw : mW G Sh s I L H locs) (hr : ∃ cell : Cell, H[a]? = some cell ∧ cell.vm.isStatics = false ∧ s.vm.findClass C = some cell.cls) (hn : As.length = n) {st : List Value} (hst : st = As.reverse ++ .ref a :: rest) (hsz : ls.size = nL) (hW : (rest.map fun v => v.category).sum ≤ 8) (hf : cells ≤ R.cells ∧ slots ≤ R.slots) (hdg : decode cc pc = .ok (.invokevirtual index, 3))
    (kk : ∀ (r : Int32) (I1 : MI) (L1 : ML) (H1 : Heap) (locs1 : List Loc), K r I1 L1 → mW G Sh s I1 L1 H1 locs1 → W p l e R s m args below meth c H1 locs1 cells slots Q (F0 m (pc + 3) ls (.int r :: rest))) : W p l e R s m args below meth c H locs cells slots Q (F0 m pc ls st) :=
  va_calli (va_runV S hM cw (hw.preV hr) rfl hn hsz hst (lv_room hW) hdg hf) hw.2.2.1 (fun _ _ h => h) (fun _ h => h) (fun r u t H1 locs1 ht hvm hk hB _ _ hS => kk r u.1 u.2 H1 locs1 hk ⟨by rw [← ht]; exact hB.1, hw.2.1, hS, hw.2.2.2⟩)
theorem r_cvL {K : Int64 → MI → ML → Prop} (S : CallFix p m c cc nL s args Ts own) (hM : CtL l y ws rm G Sh (.ref a :: As) I L K) (cw : CallW R s args own C index y bytes maxL ret ws rm 0 0 n) (hw : mW G Sh s I L H locs) (hr : ∃ cell : Cell, H[a]? = some cell ∧ cell.vm.isStatics = false ∧ s.vm.findClass C = some cell.cls) (hn : As.length = n) {st : List Value} (hst : st = As.reverse ++ .ref a :: rest) (hsz : ls.size = nL) (hW : (rest.map fun v => v.category).sum ≤ 8) (hf : cells ≤ R.cells ∧ slots ≤ R.slots) (hdg : decode cc pc = .ok (.invokevirtual index, 3))
    (kk : ∀ (r : Int64) (I1 : MI) (L1 : ML) (H1 : Heap) (locs1 : List Loc), K r I1 L1 → mW G Sh s I1 L1 H1 locs1 → W p l e R s m args below meth c H1 locs1 cells slots Q (F0 m (pc + 3) ls (.long r :: rest))) : W p l e R s m args below meth c H locs cells slots Q (F0 m pc ls st) :=
  va_calll (va_runV S hM cw (hw.preV hr) rfl hn hsz hst (lv_room hW) hdg hf) hw.2.2.1 (fun _ _ h => h) (fun _ h => h) (fun r u t H1 locs1 ht hvm hk hB _ _ hS => kk r u.1 u.2 H1 locs1 hk ⟨by rw [← ht]; exact hB.1, hw.2.1, hS, hw.2.2.2⟩)
theorem r_cvV {K : MI → ML → Prop} (S : CallFix p m c cc nL s args Ts own) (hM : CtV l y ws rm G Sh (.ref a :: As) I L K) (cw : CallW R s args own C index y bytes maxL ret ws rm 0 0 n) (hw : mW G Sh s I L H locs) (hr : ∃ cell : Cell, H[a]? = some cell ∧ cell.vm.isStatics = false ∧ s.vm.findClass C = some cell.cls) (hn : As.length = n) {st : List Value} (hst : st = As.reverse ++ .ref a :: rest) (hsz : ls.size = nL) (hW : (rest.map fun v => v.category).sum ≤ 8) (hf : cells ≤ R.cells ∧ slots ≤ R.slots) (hdg : decode cc pc = .ok (.invokevirtual index, 3))
    (kk : ∀ (I1 : MI) (L1 : ML) (H1 : Heap) (locs1 : List Loc), K I1 L1 → mW G Sh s I1 L1 H1 locs1 → W p l e R s m args below meth c H1 locs1 cells slots Q (F0 m (pc + 3) ls rest)) : W p l e R s m args below meth c H locs cells slots Q (F0 m pc ls st) :=
  va_callv (va_runV S hM cw (hw.preV hr) rfl hn hsz hst (lv_room hW) hdg hf) hw.2.2.1 (fun _ _ h => h) (fun _ h => h) (fun u t H1 locs1 ht hvm hk hB _ _ hS => kk u.1 u.2 H1 locs1 hk ⟨by rw [← ht]; exact hB.1, hw.2.1, hS, hw.2.2.2⟩)
theorem r_cvQ {K : Option Nat → MI → ML → Prop} (S : CallFix p m c cc nL s args Ts own) (hM : CtQ l y ws rm G Sh (.ref a :: As) I L K) (cw : CallW R s args own C index y bytes maxL ret ws rm 0 0 n) (hw : mW G Sh s I L H locs) (hr : ∃ cell : Cell, H[a]? = some cell ∧ cell.vm.isStatics = false ∧ s.vm.findClass C = some cell.cls) (hn : As.length = n) {st : List Value} (hst : st = As.reverse ++ .ref a :: rest) (hsz : ls.size = nL) (hW : (rest.map fun v => v.category).sum ≤ 8) (hf : cells ≤ R.cells ∧ slots ≤ R.slots) (hdg : decode cc pc = .ok (.invokevirtual index, 3))
    (kk : ∀ (r : Option Nat) (I1 : MI) (L1 : ML) (H1 : Heap) (locs1 : List Loc), K r I1 L1 → mW G Sh s I1 L1 H1 locs1 → W p l e R s m args below meth c H1 locs1 cells slots Q (F0 m (pc + 3) ls (va_rf r :: rest))) : W p l e R s m args below meth c H locs cells slots Q (F0 m pc ls st) :=
  va_callq (va_runV S hM cw (hw.preV hr) rfl hn hsz hst (lv_room hW) hdg hf) hw.2.2.1 (fun _ _ h => h) (fun _ h => h) (fun r u t H1 locs1 ht hvm hk hB _ _ hS => kk r u.1 u.2 H1 locs1 hk ⟨by rw [← ht]; exact hB.1, hw.2.1, hS, hw.2.2.2⟩)
theorem r_csI {K : Int32 → MI → ML → Prop} (S : CallFix p m c cc nL s args Ts own) (hM : CtI l y ws rm G Sh As I L K) (cw : CallB R s args own index y bytes maxL ret ws rm 0 0 n ∧ (Cond.static y).before args s = true) (hw : mW G Sh s I L H locs) (hn : As.length = n) {st : List Value} (hst : st = As.reverse ++ rest) (hsz : ls.size = nL) (hW : (rest.map fun v => v.category).sum ≤ 8) (hf : cells ≤ R.cells ∧ slots ≤ R.slots) (hdg : decode cc pc = .ok (.invokestatic index, 3))
    (kk : ∀ (r : Int32) (I1 : MI) (L1 : ML) (H1 : Heap) (locs1 : List Loc), K r I1 L1 → mW G Sh s I1 L1 H1 locs1 → W p l e R s m args below meth c H1 locs1 cells slots Q (F0 m (pc + 3) ls (.int r :: rest))) : W p l e R s m args below meth c H locs cells slots Q (F0 m pc ls st) :=
  va_calli (va_runS S hM cw hw.preS rfl hn hsz hst (lv_room hW) hdg hf) hw.2.2.1 (fun _ _ h => h) (fun _ h => h) (fun r u t H1 locs1 ht hvm hk hB _ _ hS => kk r u.1 u.2 H1 locs1 hk ⟨by rw [← ht]; exact hB.1, hw.2.1, hS, hw.2.2.2⟩)
theorem r_csL {K : Int64 → MI → ML → Prop} (S : CallFix p m c cc nL s args Ts own) (hM : CtL l y ws rm G Sh As I L K) (cw : CallB R s args own index y bytes maxL ret ws rm 0 0 n ∧ (Cond.static y).before args s = true) (hw : mW G Sh s I L H locs) (hn : As.length = n) {st : List Value} (hst : st = As.reverse ++ rest) (hsz : ls.size = nL) (hW : (rest.map fun v => v.category).sum ≤ 8) (hf : cells ≤ R.cells ∧ slots ≤ R.slots) (hdg : decode cc pc = .ok (.invokestatic index, 3))
    (kk : ∀ (r : Int64) (I1 : MI) (L1 : ML) (H1 : Heap) (locs1 : List Loc), K r I1 L1 → mW G Sh s I1 L1 H1 locs1 → W p l e R s m args below meth c H1 locs1 cells slots Q (F0 m (pc + 3) ls (.long r :: rest))) : W p l e R s m args below meth c H locs cells slots Q (F0 m pc ls st) :=
  va_calll (va_runS S hM cw hw.preS rfl hn hsz hst (lv_room hW) hdg hf) hw.2.2.1 (fun _ _ h => h) (fun _ h => h) (fun r u t H1 locs1 ht hvm hk hB _ _ hS => kk r u.1 u.2 H1 locs1 hk ⟨by rw [← ht]; exact hB.1, hw.2.1, hS, hw.2.2.2⟩)
theorem r_csV {K : MI → ML → Prop} (S : CallFix p m c cc nL s args Ts own) (hM : CtV l y ws rm G Sh As I L K) (cw : CallB R s args own index y bytes maxL ret ws rm 0 0 n ∧ (Cond.static y).before args s = true) (hw : mW G Sh s I L H locs) (hn : As.length = n) {st : List Value} (hst : st = As.reverse ++ rest) (hsz : ls.size = nL) (hW : (rest.map fun v => v.category).sum ≤ 8) (hf : cells ≤ R.cells ∧ slots ≤ R.slots) (hdg : decode cc pc = .ok (.invokestatic index, 3))
    (kk : ∀ (I1 : MI) (L1 : ML) (H1 : Heap) (locs1 : List Loc), K I1 L1 → mW G Sh s I1 L1 H1 locs1 → W p l e R s m args below meth c H1 locs1 cells slots Q (F0 m (pc + 3) ls rest)) : W p l e R s m args below meth c H locs cells slots Q (F0 m pc ls st) :=
  va_callv (va_runS S hM cw hw.preS rfl hn hsz hst (lv_room hW) hdg hf) hw.2.2.1 (fun _ _ h => h) (fun _ h => h) (fun u t H1 locs1 ht hvm hk hB _ _ hS => kk u.1 u.2 H1 locs1 hk ⟨by rw [← ht]; exact hB.1, hw.2.1, hS, hw.2.2.2⟩)
theorem r_csNI {K : Int32 → MI → ML → Prop} {host : String} (S : CallFix p m c cc nL s args Ts own) (hM : CtI l y ws rm G Sh As I L K) (cw : va_CN R s args own index y host bytes maxL ret ws rm 0 0 n ∧ (Cond.static y).before args s = true ∧ True) (hw : mW G Sh s I L H locs) (hn : As.length = n) {st : List Value} (hst : st = As.reverse ++ rest) (hsz : ls.size = nL) (hW : (rest.map fun v => v.category).sum ≤ 8) (hf : cells ≤ R.cells ∧ slots ≤ R.slots) (hdg : decode cc pc = .ok (.invokestatic index, 3))
    (kk : ∀ (r : Int32) (I1 : MI) (L1 : ML) (H1 : Heap) (locs1 : List Loc), K r I1 L1 → mW G Sh s I1 L1 H1 locs1 → W p l e R s m args below meth c H1 locs1 cells slots Q (F0 m (pc + 3) ls (.int r :: rest))) : W p l e R s m args below meth c H locs cells slots Q (F0 m pc ls st) :=
  va_calli (va_runSN S hM cw hw.preS rfl hn hsz hst (lv_room hW) hdg hf) hw.2.2.1 (fun _ _ h => h) (fun _ h => h) (fun r u t H1 locs1 ht hvm hk hB _ _ hS => kk r u.1 u.2 H1 locs1 hk ⟨by rw [← ht]; exact hB.1, hw.2.1, hS, hw.2.2.2⟩)
-- the ends
abbrev eI (below : List Frame) (G : GX) (Sh : SH) (K : Int32 → MI → ML → Prop) (args : Array Value) (s : State) : State → Prop := MQ below (va_Qi (fun (r : Int32) (u : MI × ML) => K r u.1 u.2) (fun (u : MI × ML) t => mB G Sh u.1 u.2 t) (mA G)) args s 0 0 (mA G)
abbrev eL (below : List Frame) (G : GX) (Sh : SH) (K : Int64 → MI → ML → Prop) (args : Array Value) (s : State) : State → Prop := MQ below (va_Ql (fun (r : Int64) (u : MI × ML) => K r u.1 u.2) (fun (u : MI × ML) t => mB G Sh u.1 u.2 t) (mA G)) args s 0 0 (mA G)
abbrev eV (below : List Frame) (G : GX) (Sh : SH) (K : MI → ML → Prop) (args : Array Value) (s : State) : State → Prop := MQ below (va_Qv (fun (u : MI × ML) => K u.1 u.2) (fun (u : MI × ML) t => mB G Sh u.1 u.2 t) (mA G)) args s 0 0 (mA G)
abbrev eQ (below : List Frame) (G : GX) (Sh : SH) (K : Option Nat → MI → ML → Prop) (args : Array Value) (s : State) : State → Prop := MQ below (va_Qq (fun (r : Option Nat) (u : MI × ML) => K r u.1 u.2) (fun (u : MI × ML) t => mB G Sh u.1 u.2 t) (mA G)) args s 0 0 (mA G)
theorem r_iret {K : Int32 → MI → ML → Prop} {v : Int32} (hx : p.tables.exec = Jvm.exec) (hb : c.code = cc) (hr : meth.sig.returnType = some .int) (hlocks : meth.locks = false) (hw : mW G Sh s I L H locs) (hk : K v I L) (hdg : decode cc pc = .ok (.ireturn, 1)) : W p l e R s m args below meth c H locs 0 0 (eI below G Sh K args s) (F0 m pc ls [.int v]) :=
  W.iret hx hb hr (fun t ht hW => ⟨⟨v, (I, L), rfl, hk, (hw.ends ht hW).1⟩, (hw.ends ht hW).2⟩) hw.2.2.1.2.2 hdg hlocks
theorem r_zret {K : Int32 → MI → ML → Prop} {v : Int32} (hx : p.tables.exec = Jvm.exec) (hb : c.code = cc) (hr : meth.sig.returnType = some .boolean) (hlocks : meth.locks = false) (hw : mW G Sh s I L H locs) (hk : v &&& 1 = v ∧ K v I L) (hdg : decode cc pc = .ok (.ireturn, 1)) : W p l e R s m args below meth c H locs 0 0 (eI below G Sh K args s) (F0 m pc ls [.int v]) :=
  W.zret hx hb hr (congrArg Value.int hk.1) (fun t ht hW => ⟨⟨v, (I, L), rfl, hk.2, (hw.ends ht hW).1⟩, (hw.ends ht hW).2⟩) hw.2.2.1.2.2 hdg hlocks
theorem r_lret {K : Int64 → MI → ML → Prop} {v : Int64} (hx : p.tables.exec = Jvm.exec) (hb : c.code = cc) (hr : meth.sig.returnType = some .long) (hlocks : meth.locks = false) (hw : mW G Sh s I L H locs) (hk : K v I L) (hdg : decode cc pc = .ok (.lreturn, 1)) : W p l e R s m args below meth c H locs 0 0 (eL below G Sh K args s) (F0 m pc ls [.long v]) :=
  W.lret hx hb hr (fun t ht hW => ⟨⟨v, (I, L), rfl, hk, (hw.ends ht hW).1⟩, (hw.ends ht hW).2⟩) hw.2.2.1.2.2 hdg hlocks
theorem r_vret {K : MI → ML → Prop} (hx : p.tables.exec = Jvm.exec) (hb : c.code = cc) (hr : meth.sig.returnType = none) (hlocks : meth.locks = false) (hw : mW G Sh s I L H locs) (hk : K I L) (hdg : decode cc pc = .ok (.return_, 1)) : W p l e R s m args below meth c H locs 0 0 (eV below G Sh K args s) (F0 m pc ls []) :=
  W.vret hx hb hr (fun t ht hW => ⟨⟨(I, L), rfl, hk, (hw.ends ht hW).1⟩, (hw.ends ht hW).2⟩) hw.2.2.1.2.2 hdg hlocks
theorem r_qret {K : Option Nat → MI → ML → Prop} {r : Option Nat} {C : String} (hx : p.tables.exec = Jvm.exec) (hb : c.code = cc) (hr : meth.sig.returnType = some (.object C)) (hlocks : meth.locks = false) (hw : mW G Sh s I L H locs) (hk : K r I L) (hdg : decode cc pc = .ok (.areturn, 1)) : W p l e R s m args below meth c H locs 0 0 (eQ below G Sh K args s) (F0 m pc ls [va_rf r]) :=
  W.aret hx hb hr (Or.inl ⟨C, rfl⟩) (va_rf_or r) (fun t ht hW => ⟨⟨r, (I, L), rfl, hk, (hw.ends ht hW).1⟩, (hw.ends ht hW).2⟩) hw.2.2.1.2.2 hdg hlocks
end MC
end
section
/-! WHAT MAKES CELLS: the shapes' map grows; a new cell is the heap's next -/
def shu (Sh : SH) (a : Nat) (f : Shp) : SH := fun b => if b = a then some f else Sh b
def mz (I : MI) (a : Nat) : MI := fun b => if b = a then (fun _ => 0) else I b
def mzl (L : ML) (a : Nat) : ML := fun b => if b = a then (fun _ => 0) else L b
def shm (G : GX) (Sh : SH) (z N K : Nat) : SH := fun b => if b = z then some (sQ G 7 N (fun i => if i < N then some (z + 1 + i) else none)) else if z < b ∧ b ≤ z + N then some (sI G K) else Sh b
def mzm (I : MI) (z N : Nat) : MI := fun b => if z ≤ b ∧ b ≤ z + N then (fun _ => 0) else I b
theorem shu_at (Sh : SH) (a : Nat) (f : Shp) : shu Sh a f a = some f := if_pos rfl
theorem shu_off {Sh : SH} {a b : Nat} {f : Shp} (h : b ≠ a) : shu Sh a f b = Sh b := if_neg h
theorem mz_at (I : MI) (a : Nat) : mz I a a = fun _ => 0 := if_pos rfl
theorem mz_off {I : MI} {a b : Nat} (h : b ≠ a) : mz I a b = I b := if_neg h
theorem mzl_at (L : ML) (a : Nat) : mzl L a a = fun _ => 0 := if_pos rfl
theorem mzl_off {L : ML} {a b : Nat} (h : b ≠ a) : mzl L a b = L b := if_neg h
theorem mW.lt {G : GX} {Sh : SH} {I : MI} {L : ML} {s : State} {H : Heap} {locs : List Loc} (h : mW G Sh s I L H locs) {a : Nat} {f : Shp} (hs : Sh a = some f) : a < H.size := (h.1 a f hs).2.lt
theorem mW.low {G : GX} {Sh : SH} {I : MI} {L : ML} {s : State} {H : Heap} {locs : List Loc} (h : mW G Sh s I L H locs) : G.2.2 ≤ H.size := Nat.le_trans h.2.2.2.1 h.2.2.1.1
theorem sh_new {G : GX} {Sh Sh1 : SH} {I : MI} {L : ML} {s : State} {H : Heap} {locs : List Loc} {z a : Nat} {f g : Shp} (h : mW G Sh s I L H locs) (hz : H.size = z) (hs : Sh a = some f) (e : Sh1 = shu Sh z g) : Sh1 a = some f := by
  rw [e, shu_off (Nat.ne_of_lt (by rw [← hz]; exact h.lt hs))]
  exact hs
theorem mW.grow {G : GX} {Sh : SH} {I : MI} {L : ML} {s : State} {H H1 : Heap} {locs : List Loc} {z : Nat} (h : mW G Sh s I L H locs) (hz : H.size = z) {f : Shp} (he : va_at G.1 vwCl (z, f (fun _ => 0) (fun _ => 0)) H1) (z1 : H1.size = z + 1) (o1 : ∀ q, q < z → H1[q]? = H[q]?) : mW G (shu Sh z f) s (mz I z) (mzl L z) H1 locs := by
  have hlow := h.low
  refine ⟨fun b g hb => ?_, h.2.1, ⟨by rw [z1]; have := h.2.2.1.1; omega, fun x h1 h2 => (o1 x (by have := h.2.2.1.1; omega)).trans (h.2.2.1.2.1 x h1 h2), h.2.2.1.2.2⟩, h.2.2.2⟩
  by_cases e : b = z
  · subst e
    rw [shu_at] at hb
    cases hb
    rw [mz_at, mzl_at]
    exact ⟨by omega, he⟩
  · rw [shu_off e] at hb
    rw [mz_off e, mzl_off e]
    have hl := h.lt hb
    exact ⟨(h.1 b g hb).1, (h.1 b g hb).2.kept (o1 b (by omega))⟩
/-- one cell is written, and is of another shape then -/
theorem mW.wrS {G : GX} {Sh : SH} {I : MI} {L : ML} {s : State} {H H1 : Heap} {locs : List Loc} (h : mW G Sh s I L H locs) {a k : Nat} {f : Shp} (hs : Sh a = some f) (g : Shp) (he : va_at G.1 vwCl (a, g (I a) (L a)) H1) (z : H1.size = H.size) (oq : ∀ q : Nat, q ≠ a → H1[q]? = H[q]?) : mW G (shu Sh a g) s I L H1 (locs ++ [⟨a, k⟩]) := by
  refine ⟨fun b g2 hb => ?_, h.2.1, h.2.2.1.put z oq (h.1 a f hs).1, h.2.2.2⟩
  by_cases e : b = a
  · subst e
    rw [shu_at] at hb
    cases hb
    exact ⟨(h.1 b f hs).1, he⟩
  · rw [shu_off e] at hb
    exact ⟨(h.1 b g2 hb).1, (h.1 b g2 hb).2.kept (oq b e)⟩
-- objects half made: the first k references are there
def sPreK (k r : Nat) : Shp := fun i _ => .inr (5, [if 0 < k then .ref (r + 1) else .null, if 1 < k then .ref (r + 2) else .null, if 2 < k then .ref (r + 3) else .null, .int (i 3), .int (i 4), .int (i 5), .int (i 6), .int (i 7)])
def sRowK (k r : Nat) : Shp := fun i _ => .inr (6, [if 0 < k then .ref (r + 1) else .null, if 1 < k then .ref (r + 2) else .null, if 2 < k then .ref (r + 3) else .null, .int (i 3), .int (i 4)])
def sLastK (k r : Nat) : Shp := fun i j => .inr (3, [if 0 < k then .ref (r + 1) else .null, if 1 < k then .ref (r + 2) else .null, if 2 < k then .ref (r + 3) else .null, if 3 < k then .ref (r + 4) else .null, if 4 < k then .ref (r + 5) else .null, if 5 < k then .ref (r + 6) else .null, if 6 < k then .ref (r + 7) else .null, .int (i 7), .int (i 8), .long (j 9), .long (j 10), .int (i 11), .long (j 12)])
def sNeedsK (k r : Nat) : Shp := fun _ _ => .inr (4, [if 0 < k then .ref (r + 1) else .null])
def sTableK (k r : Nat) : Shp := fun i _ => .inr (7, [if 0 < k then .ref (r + 1) else .null, if 1 < k then .ref (r + 5) else .null, if 2 < k then .ref (r + 6) else .null, if 3 < k then .ref (r + 7) else .null, if 4 < k then .ref (r + 8) else .null, .int (i 5), .int (i 6), .int (i 7), .int (i 8)])
def sXK (k r : Nat) : Shp := fun i _ => .inr (8, [if 0 < k then .ref (r + 1) else .null, .int (i 1)])
def sModelK (k r : Nat) : Shp := fun i _ => .inr (9, [.int (i 0), .int (i 1), if 0 < k then .ref (r + 1) else .null, if 1 < k then .ref (r + 2) else .null, if 2 < k then .ref (r + 3) else .null, if 3 < k then .ref (r + 4) else .null, if 4 < k then .ref (r + 5) else .null, if 5 < k then .ref (r + 6) else .null, if 6 < k then .ref (r + 7) else .null, if 7 < k then .ref (r + 8) else .null, if 8 < k then .ref (r + 9) else .null, if 9 < k then .ref (r + 10) else .null, if 10 < k then .ref (r + 11) else .null, if 11 < k then .ref (r + 12) else .null, if 12 < k then .ref (r + 13) else .null, if 13 < k then .ref (r + 14) else .null, if 14 < k then .ref (r + 15) else .null, if 15 < k then .ref (r + 16) else .null, if 16 < k then .ref (r + 17) else .null, if 17 < k then .ref (r + 18) else .null, if 18 < k then .ref (r + 19) else .null, if 19 < k then .ref (r + 20) else .null, if 20 < k then .ref (r + 21) else .null, if 21 < k then .ref (r + 22) else .null, if 22 < k then .ref (r + 23) else .null, if 23 < k then .ref (r + 24) else .null, if 24 < k then .ref (r + 25) else .null, if 25 < k then .ref (r + 26) else .null, if 26 < k then .ref (r + 27) else .null, if 27 < k then .ref (r + 28) else .null, if 28 < k then .ref (r + 29) else .null, if 29 < k then .ref (r + 30) else .null, if 30 < k then .ref (r + 31) else .null, if 31 < k then .ref (r + 32) else .null, if 32 < k then .ref (r + 33) else .null, if 33 < k then .ref (r + 34) else .null, .int (i 36), .int (i 37)])
theorem sPreK_3 (r : Nat) : sPreK 3 r = sPre r := rfl
theorem sRowK_3 (r : Nat) : sRowK 3 r = sRow r := rfl
theorem sLastK_7 (r : Nat) : sLastK 7 r = sLast r := rfl
theorem sNeedsK_1 (r : Nat) : sNeedsK 1 r = sNeeds r := rfl
theorem sTableK_5 (r : Nat) : sTableK 5 r = sTable r := rfl
theorem sXK_1 (r : Nat) : sXK 1 r = sX r := rfl
theorem sModelK_34 (r : Nat) : sModelK 34 r = sModel r := rfl
section AR
variable {p : Program} {l : Launch} {e : Env} {R : Room} {s : State} {m : MethodId} {args : Array Value} {below : List Frame} {meth : Method} {c : Code} {H : Heap} {locs : List Loc} {cells slots : Nat} {Q : State → Prop}
variable {cc : ByteArray} {pc z : Nat} {ls : Array Slot} {rest : List Value} {a : Nat} {Ts : List Cond} {G : GX} {Sh : SH} {I : MI} {L : ML} {f : Shp}
theorem r_new (hx : p.tables.exec = Jvm.exec) (hb : c.code = cc) (hts : ∀ w ∈ Ts, w.before args s = true) {own C : String} {T : u_T} {N ci index : Nat} (hown : s.vm.findClass own = some m.cls) (hin : ∀ w ∈ u_ws C T N, w ∈ Ts) (ty : Nat → FieldType) (hty : ∀ k, k < N → parseFieldDescriptor (T k).2.2.1 = some (ty k)) (hcl : (Cond.classLink own index C).before args s = true) (hinst : (Cond.instantiable C N).before args s = true) (hini : (Cond.initialized C).before args s = true)
    (hw : mW G Sh s I L H locs) (hz : H.size = z) (hc : vwCl[ci]? = some (C, T, N)) (f : Shp) {fs : List Value} (hf : f (fun _ => 0) (fun _ => 0) = .inr (ci, fs)) (hfs : ∀ j, j < N → defaultValue (ty j) = vp_V fs j) (hcells : cells + 1 ≤ R.cells) (hslots : slots + N ≤ R.slots) (hdg : decode cc pc = .ok (.new index, 3))
    (kk : ∀ (Sh1 : SH) (I1 : MI) (L1 : ML) (H1 : Heap), Sh1 = shu Sh z f → I1 = mz I z → L1 = mzl L z → mW G Sh1 s I1 L1 H1 locs → H1.size = z + 1 → W p l e R s m args below meth c H1 locs (cells + 1) (slots + N) Q (F0 m (pc + 3) ls (.ref z :: rest))) : W p l e R s m args below meth c H locs cells slots Q (F0 m pc ls rest) := by
  have hKn := hw.2.1.1 ci _ hc
  refine W.newcK hx hb hown hcl hinst hini rfl hdg hcells hslots hKn.2.1 hz fun H1 kC hkC e1 z1 o1 => ?_
  refine kk _ _ _ H1 rfl rfl rfl (hw.grow hz ?_ z1 o1) z1
  rw [hf]
  exact ⟨_, hc, (u_born ty hts hin hKn hkC e1 hty).to hfs⟩
theorem r_newa {atype : ArrayType} {ty : FieldType} (hty : newarray.typeOf atype = ty) {k : Nat} (hx : p.tables.exec = Jvm.exec) (hb : c.code = cc) (harr : (Cond.arrayClass ty).before args s = true) (hw : mW G Sh s I L H locs) (hRA : s.vm.findClass ("[" ++ ty.toString) = some (G.2.1 k)) (hz : H.size = z) {n : Int32} {N' : Nat} {a0 : vp_A} (f : Shp) (hf : f (fun _ => 0) (fun _ => 0) = .inl (G.2.1 k, a0)) (ha : ∀ cA : ClassId, vp_cell cA a0 = arrV cA N' (fun _ => defaultValue ty)) (hn : ¬ n < 0) (hN : n.toNatClampNeg = N') (hbytes : N' * componentBytes ty ≤ 536870912) (hcells : cells + 1 ≤ R.cells) (hslots : slots + N' ≤ R.slots) (hdg : decode cc pc = .ok (.newarray atype, 2))
    (kk : ∀ (Sh1 : SH) (I1 : MI) (L1 : ML) (H1 : Heap), Sh1 = shu Sh z f → I1 = mz I z → L1 = mzl L z → mW G Sh1 s I1 L1 H1 locs → H1.size = z + 1 → W p l e R s m args below meth c H1 locs (cells + 1) (slots + N') Q (F0 m (pc + 2) ls (.ref z :: rest))) : W p l e R s m args below meth c H locs cells slots Q (F0 m pc ls (.int n :: rest)) := by
  subst hty
  refine va_newaK hx hb harr rfl hdg rfl hn hN hbytes hcells hslots hz fun H1 cA e1 z1 o1 hAr hNm => ?_
  have hcA : cA = G.2.1 k := Option.some.inj (hNm.symm.trans hRA)
  subst hcA
  refine kk _ _ _ H1 rfl rfl rfl (hw.grow hz ?_ z1 o1) z1
  rw [hf]
  show H1[z]? = some (vp_cell _ _)
  rw [ha]
  exact e1
theorem r_newI (hx : p.tables.exec = Jvm.exec) (hb : c.code = cc) (harr : (Cond.arrayClass .int).before args s = true) (hw : mW G Sh s I L H locs) (hz : H.size = z) {n : Int32} {N' : Nat} (hn : ¬ n < 0) (hN : n.toNatClampNeg = N') (hbytes : N' * componentBytes .int ≤ 536870912) (hcells : cells + 1 ≤ R.cells) (hslots : slots + N' ≤ R.slots) (hdg : decode cc pc = .ok (.newarray .int, 2))
    (kk : ∀ (Sh1 : SH) (I1 : MI) (L1 : ML) (H1 : Heap), Sh1 = shu Sh z (sI G N') → I1 = mz I z → L1 = mzl L z → mW G Sh1 s I1 L1 H1 locs → H1.size = z + 1 → W p l e R s m args below meth c H1 locs (cells + 1) (slots + N') Q (F0 m (pc + 2) ls (.ref z :: rest))) : W p l e R s m args below meth c H locs cells slots Q (F0 m pc ls (.int n :: rest)) :=
  r_newa (ty := .int) (k := 0) rfl hx hb harr hw (hw.2.1.2 0 (G.2.1 0, .int) rfl).2 hz (sI G N') (a0 := (N', .inl (fun _ => 0))) rfl (fun cA => by rw [vp_cell_i]; rfl) hn hN hbytes hcells hslots hdg kk
theorem r_newZ (hx : p.tables.exec = Jvm.exec) (hb : c.code = cc) (harr : (Cond.arrayClass .boolean).before args s = true) (hw : mW G Sh s I L H locs) (hz : H.size = z) {n : Int32} {N' : Nat} (hn : ¬ n < 0) (hN : n.toNatClampNeg = N') (hbytes : N' * componentBytes .boolean ≤ 536870912) (hcells : cells + 1 ≤ R.cells) (hslots : slots + N' ≤ R.slots) (hdg : decode cc pc = .ok (.newarray .boolean, 2))
    (kk : ∀ (Sh1 : SH) (I1 : MI) (L1 : ML) (H1 : Heap), Sh1 = shu Sh z (sZ G N') → I1 = mz I z → L1 = mzl L z → mW G Sh1 s I1 L1 H1 locs → H1.size = z + 1 → W p l e R s m args below meth c H1 locs (cells + 1) (slots + N') Q (F0 m (pc + 2) ls (.ref z :: rest))) : W p l e R s m args below meth c H locs cells slots Q (F0 m pc ls (.int n :: rest)) :=
  r_newa (ty := .boolean) (k := 1) rfl hx hb harr hw (hw.2.1.2 1 (G.2.1 1, .boolean) rfl).2 hz (sZ G N') (a0 := (N', .inl (fun _ => 0))) rfl (fun cA => by rw [vp_cell_i]; rfl) hn hN hbytes hcells hslots hdg kk
theorem r_newC (hx : p.tables.exec = Jvm.exec) (hb : c.code = cc) (harr : (Cond.arrayClass .char).before args s = true) (hw : mW G Sh s I L H locs) (hz : H.size = z) {n : Int32} {N' : Nat} (hn : ¬ n < 0) (hN : n.toNatClampNeg = N') (hbytes : N' * componentBytes .char ≤ 536870912) (hcells : cells + 1 ≤ R.cells) (hslots : slots + N' ≤ R.slots) (hdg : decode cc pc = .ok (.newarray .char, 2))
    (kk : ∀ (Sh1 : SH) (I1 : MI) (L1 : ML) (H1 : Heap), Sh1 = shu Sh z (sC G N') → I1 = mz I z → L1 = mzl L z → mW G Sh1 s I1 L1 H1 locs → H1.size = z + 1 → W p l e R s m args below meth c H1 locs (cells + 1) (slots + N') Q (F0 m (pc + 2) ls (.ref z :: rest))) : W p l e R s m args below meth c H locs cells slots Q (F0 m pc ls (.int n :: rest)) :=
  r_newa (ty := .char) (k := 2) rfl hx hb harr hw (hw.2.1.2 2 (G.2.1 2, .char) rfl).2 hz (sC G N') (a0 := (N', .inl (fun _ => 0))) rfl (fun cA => by rw [vp_cell_i]; rfl) hn hN hbytes hcells hslots hdg kk
theorem r_newJ (hx : p.tables.exec = Jvm.exec) (hb : c.code = cc) (harr : (Cond.arrayClass .long).before args s = true) (hw : mW G Sh s I L H locs) (hz : H.size = z) {n : Int32} {N' : Nat} (hn : ¬ n < 0) (hN : n.toNatClampNeg = N') (hbytes : N' * componentBytes .long ≤ 536870912) (hcells : cells + 1 ≤ R.cells) (hslots : slots + N' ≤ R.slots) (hdg : decode cc pc = .ok (.newarray .long, 2))
    (kk : ∀ (Sh1 : SH) (I1 : MI) (L1 : ML) (H1 : Heap), Sh1 = shu Sh z (sJ G N') → I1 = mz I z → L1 = mzl L z → mW G Sh1 s I1 L1 H1 locs → H1.size = z + 1 → W p l e R s m args below meth c H1 locs (cells + 1) (slots + N') Q (F0 m (pc + 2) ls (.ref z :: rest))) : W p l e R s m args below meth c H locs cells slots Q (F0 m pc ls (.int n :: rest)) :=
  r_newa (ty := .long) (k := 3) rfl hx hb harr hw (hw.2.1.2 3 (G.2.1 3, .long) rfl).2 hz (sJ G N') (a0 := (N', .inr (.inl (fun _ => 0)))) rfl (fun cA => by rw [vp_cell_l]; rfl) hn hN hbytes hcells hslots hdg kk
theorem r_newQ (hx : p.tables.exec = Jvm.exec) (hb : c.code = cc) {own C : String} {index k : Nat} (hown : s.vm.findClass own = some m.cls) (hclink : (Cond.classLink own index C).before args s = true) (hover : va_Nw (.arrayOver (.object C)) s) (hw : mW G Sh s I L H locs) (hk : (mtys G.2.1)[k]? = some (G.2.1 k, .object C)) (hz : H.size = z) {n : Int32} {N' : Nat} (hn : ¬ n < 0) (hN : n.toNatClampNeg = N') (hbytes : N' * 4 ≤ 536870912) (hcells : cells + 1 ≤ R.cells) (hslots : slots + N' ≤ R.slots) (hdg : decode cc pc = .ok (.anewarray index, 3))
    (kk : ∀ (Sh1 : SH) (I1 : MI) (L1 : ML) (H1 : Heap), Sh1 = shu Sh z (sQ G k N' (fun _ => none)) → I1 = mz I z → L1 = mzl L z → mW G Sh1 s I1 L1 H1 locs → H1.size = z + 1 → W p l e R s m args below meth c H1 locs (cells + 1) (slots + N') Q (F0 m (pc + 3) ls (.ref z :: rest))) : W p l e R s m args below meth c H locs cells slots Q (F0 m pc ls (.int n :: rest)) := by
  subst hN
  refine W.anew hx hb hown hclink (va_AO.use hover) rfl hdg rfl hn hbytes hcells hslots fun cA kA comp f1 f2 f3 f4 => ?_
  generalize hH1 : H.push ({ cls := cA, slots := Array.replicate n.toNatClampNeg .null, vm := .none } : Cell) = H1
  have z1 : H1.size = H.size + 1 := by rw [← hH1, Array.size_push]
  have e1 : H1[H.size]? = some (arrV cA n.toNatClampNeg (fun _ => .null)) := by rw [← hH1, Array.getElem?_push_size, ← arrV_new]
  have o1 : ∀ q : Nat, q < H.size → H1[q]? = H[q]? := fun q hq => by rw [← hH1, Array.getElem?_push, if_neg (Nat.ne_of_lt hq)]
  obtain ⟨-, kB, cB, g1, g2, g3, g4⟩ := hw.2.1.2 k _ hk
  have hcA : cA = G.2.1 k := Option.some.inj (f1.symm.trans g4)
  subst hcA
  subst hz
  refine kk _ _ _ H1 rfl rfl rfl (hw.grow rfl ?_ z1 o1) z1
  show H1[H.size]? = some (vp_cell _ _)
  rw [vp_cell_q]
  exact e1
theorem r_outer (c : ClassId) (N h0 : Nat) : ∀ i : Nat, Jvm.Free.Multi.outerC c N h0 i = arrV c N (fun j => va_rf (if j < i then some (h0 + 1 + j) else none))
  | 0 => by
    show ({ cls := c, slots := Array.replicate N .null, vm := .none } : Cell) = _
    rw [arrV_new]
    refine congrArg (arrV c N) (funext fun j => ?_)
    simp [va_rf]
  | i + 1 => by
    show (Jvm.Free.Multi.outerC c N h0 i).setSlot i (.ref (h0 + 1 + i)) = _
    rw [r_outer c N h0 i, arrV_store]
    refine congrArg (arrV c N) (funext fun j => ?_)
    by_cases e : j = i
    · subst e
      simp [updV, va_rf]
    · by_cases h : j < i
      · simp [updV, e, h, Nat.lt_succ_of_lt h]
      · simp [updV, e, h, show ¬ j < i + 1 by omega]
theorem r_mna (hx : p.tables.exec = Jvm.exec) (hb : c.code = cc) {own : String} {index : Nat} (hown : s.vm.findClass own = some m.cls) (hclink : (Cond.classLink own index ("[" ++ (FieldType.array .int).toString)).before args s = true) (hover : va_Nw (.arrayOver (.array .int)) s) (harr : (Cond.arrayClass .int).before args s = true) (hw : mW G Sh s I L H locs) (hz : H.size = z) {n k : Int32} {N' K' : Nat} (hn : ¬ n < 0) (hk : ¬ k < 0) (hN : n.toNatClampNeg = N') (hM : k.toNatClampNeg = K') (hb1 : N' * 4 ≤ 536870912) (hb2 : K' * componentBytes .int ≤ 536870912) (hb3 : K' ≤ 536870912) (hcells : cells + (1 + N') ≤ R.cells) (hslots : slots + (N' + N' * K') ≤ R.slots) (hdg : decode cc pc = .ok (.multianewarray index 2, 4))
    (kk : ∀ (Sh1 : SH) (I1 : MI) (H1 : Heap), Sh1 = shm G Sh z N' K' → I1 = mzm I z N' → mW G Sh1 s I1 L H1 locs → H1.size = z + 1 + N' → W p l e R s m args below meth c H1 locs (cells + 1 + N') (slots + N' + N' * K') Q (F0 m (pc + 4) ls (.ref z :: rest))) : W p l e R s m args below meth c H locs cells slots Q (F0 m pc ls (.int k :: .int n :: rest)) := by
  subst hN
  subst hM
  intro T hT Xs
  obtain ⟨vm₁, cA, comp, -, fA, fC, hO, -, X', step⟩ := Xs.multianewarray2F hx hown hclink (wOx_moved (w := .arrayOver (.array .int)) rfl (Vm.Alike.refl _) hover) harr (g := F0 m pc ls (.int k :: .int n :: rest)) rfl (by rw [hb]; exact hdg) rfl hn hk hb1 hb2 hb3 rfl rfl hcells hslots
  have h7 := (hw.2.1.2 7 (G.2.1 7, .array .int) rfl).2
  have h0 := (hw.2.1.2 0 (G.2.1 0, .int) rfl).2
  have ec : comp = G.2.1 0 := Option.some.inj (fC.symm.trans h0)
  have eA : cA = G.2.1 7 := Option.some.inj (fA.symm.trans h7)
  subst ec
  subst eA
  generalize hF : Jvm.Free.Multi.fill (T.setVm vm₁) (G.2.1 7) (G.2.1 0) n.toNatClampNeg k.toNatClampNeg (defaultValue .int) n.toNatClampNeg = F at X' step
  have hTh : (T.setVm vm₁).heap = H := hT
  obtain ⟨f1, f2, -, -⟩ := Jvm.Free.Multi.fill_facts (T.setVm vm₁) (G.2.1 7) (G.2.1 0) n.toNatClampNeg k.toNatClampNeg (defaultValue .int) n.toNatClampNeg
  rw [hF, hTh] at f1 f2
  have hold : ∀ x : Nat, x < H.size → F.heap[x]? = H[x]? := fun x hx => by
    have := Jvm.Free.Multi.fill_old (T.setVm vm₁) (G.2.1 7) (G.2.1 0) n.toNatClampNeg k.toNatClampNeg (defaultValue .int) (a := x) (by rw [hTh]; exact hx) n.toNatClampNeg
    rw [hF, hTh] at this
    exact this
  have hrow : ∀ j : Nat, j < n.toNatClampNeg → F.heap[H.size + 1 + j]? = some (Jvm.Free.Multi.innerC (G.2.1 0) k.toNatClampNeg (defaultValue .int)) := fun j hj => by
    have := Jvm.Free.Multi.fill_inner (T.setVm vm₁) (G.2.1 7) (G.2.1 0) n.toNatClampNeg k.toNatClampNeg (defaultValue .int) n.toNatClampNeg j hj
    rw [hF, hTh] at this
    exact this
  rw [r_outer] at f2
  subst hz
  have hlow := hw.low
  have hmW : mW G (shm G Sh H.size n.toNatClampNeg k.toNatClampNeg) s (mzm I H.size n.toNatClampNeg) L F.heap locs := by
    refine ⟨fun b g hb => ?_, hw.2.1, ⟨by rw [f1]; have := hw.2.2.1.1; omega, fun x h1 h2 => (hold x (Nat.lt_of_lt_of_le h1 hw.2.2.1.1)).trans (hw.2.2.1.2.1 x h1 h2), hw.2.2.1.2.2⟩, hw.2.2.2⟩
    unfold shm at hb
    by_cases e : b = H.size
    · subst e
      rw [if_pos rfl] at hb
      cases hb
      exact ⟨hlow, f2⟩
    · rw [if_neg e] at hb
      by_cases e2 : H.size < b ∧ b ≤ H.size + n.toNatClampNeg
      · rw [if_pos e2] at hb
        cases hb
        refine ⟨by omega, ?_⟩
        have h9 := hrow (b - H.size - 1) (by omega)
        rw [show H.size + 1 + (b - H.size - 1) = b by omega] at h9
        have hz0 : mzm I H.size n.toNatClampNeg b = fun _ => 0 := if_pos (by omega)
        rw [hz0]
        show F.heap[b]? = some (vp_cell _ _)
        rw [vp_cell_i, h9]
        exact congrArg some (arrV_new _ _ _)
      · rw [if_neg e2] at hb
        have hl := hw.lt hb
        have hz0 : mzm I H.size n.toNatClampNeg b = I b := if_neg (by omega)
        rw [hz0]
        exact ⟨(hw.1 b g hb).1, (hw.1 b g hb).2.kept (hold b hl)⟩
  obtain ⟨t, a1, b1⟩ := kk _ _ F.heap rfl rfl hmW f1 F rfl X'
  refine ⟨t, step t ?_, b1⟩
  have e : T.heap.size = H.size := by rw [hT]
  rw [e]
  exact a1
/-- a final field, in its constructor -/
theorem r_putF (hx : p.tables.exec = Jvm.exec) (hb : c.code = cc) (hts : ∀ w ∈ Ts, w.before args s = true) {own C : String} {T : u_T} {N ci index : Nat} (hown : s.vm.findClass own = some m.cls) (hin : ∀ w ∈ u_ws C T N, w ∈ Ts) (ty0 : Nat → FieldType) (hty : ∀ k, k < N → parseFieldDescriptor (T k).2.2.1 = some (ty0 k)) (hnm : ∀ a, a < N → ∀ b, b < N → a ≠ b → (T a).2.1 ≠ (T b).2.1)
    (hw : mW G Sh s I L H locs) (hs : Sh a = some f) {fs : List Value} (hf : f (I a) (L a) = .inr (ci, fs)) (hc : vwCl[ci]? = some (C, T, N)) (k : Nat) (hk : k < N) (hlink : (Cond.fieldLink own index own (T k).2.1 (T k).2.2.1).before args s = true) (hdecl : (T k).1 = own) (hfin : (T k).2.2.2 = true) (hin2 : meth.name = "<init>") {v : Value} (hn : narrow (ty0 k) v = v) (hfit : fits (ty0 k) v = true) (hl : k < fs.length) (g : Shp) (hset : g (I a) (L a) = .inr (ci, fs.set k v)) (hdg : decode cc pc = .ok (.putfield index, 3))
    (kk : ∀ (Sh1 : SH) (H1 : Heap) (locs1 : List Loc), Sh1 = shu Sh a g → mW G Sh1 s I L H1 locs1 → H1.size = H.size → W p l e R s m args below meth c H1 locs1 cells slots Q (F0 m (pc + 3) ls rest)) : W p l e R s m args below meth c H locs cells slots Q (F0 m pc ls (v :: .ref a :: rest)) := by
  have hK := hw.2.1
  have hap := va_apart (own := own) hts hin ty0 hty hnm hK hc
  have he := (hw.1 a f hs).2
  rw [hf] at he
  obtain ⟨r, h1, cell, q1, q2, q3, q4⟩ := he
  have hr : r = (C, T, N) := Option.some.inj (h1.symm.trans hc)
  subst hr
  obtain ⟨hS, hfc, kC, hkC, hkind⟩ := hK.1 ci _ hc
  obtain ⟨cf, kf, fi, fd, hi, hsl⟩ := hS k hk
  have hlay := hts _ (hin _ (u_in_lay hk))
  unfold u_lay at hlay
  rw [if_pos hfin] at hlay
  have hst := (u_facts hfc hkC (u_lays hts hin hk) hi).1
  have hcf : m.cls = cf := by
    obtain ⟨_, _, c', _, _, _, -, -, hf', -, -, -, hown2, -⟩ := Cond.laysFinal_spec hlay
    have e1 : c' = cf := by have := hi.symm.trans hf'; simp at this; exact this.1.symm
    rw [hdecl] at hown2
    rw [← e1]; exact Option.some.inj (hown.symm.trans hown2)
  have h6 := u_fits hfc hkC hkind (Or.inr hlay) hi (hty k hk) hn hfit
  have hi2 : s.fieldFound? own (T k).2.1 (T k).2.2.1 = some (cf, kf, fi, fd) := by rw [← hdecl]; exact hi
  refine W.putFinK hx hb hown hlink hi2 hst hcf hin2 (by rw [q2]; exact h6) q1 q3 (by rw [hsl]; exact k2_hasslot (q4 k hk)) rfl rfl hdg fun H' e1 e2 e3 => ?_
  rw [hsl] at e1 ⊢
  refine kk _ H' _ rfl (hw.wrS hs g ?_ e2 e3) e2
  rw [hset]
  exact ⟨_, hc, t_OB.to (V := updV (vp_V fs) k v) ⟨_, e1, q2, q3, t_set q4 hap hk v⟩ (fun j _ => vp_updV_set hl v j)⟩
theorem r_aast (hx : p.tables.exec = Jvm.exec) (hb : c.code = cc) (hw : mW G Sh s I L H locs) {k n v ci : Nat} {F : Nat → Option Nat} {r : vw_C} {fv : Shp} {vs : List Value} (hs : Sh a = some (sQ G k n F)) (ht : (mtys G.2.1)[k]? = some (G.2.1 k, .object r.1)) (hv : Sh v = some fv) (hfv : fv (I v) (L v) = .inr (ci, vs)) (hc : vwCl[ci]? = some r) {i : Int32} (hin : vp_in i n) (hdg : decode cc pc = .ok (.aastore, 1))
    (kk : ∀ (Sh1 : SH) (H1 : Heap) (locs1 : List Loc), Sh1 = shu Sh a (sQ G k n (va_up F i.toNatClampNeg (some v))) → mW G Sh1 s I L H1 locs1 → H1.size = H.size → W p l e R s m args below meth c H1 locs1 cells slots Q (F0 m (pc + 1) ls rest)) : W p l e R s m args below meth c H locs cells slots Q (F0 m pc ls (.ref v :: .int i :: .ref a :: rest)) := by
  have hlt : i.toNatClampNeg < n := vp_lt hin
  have h0 : ¬ i < 0 := fun q => hin (Or.inl q)
  have hev := (hw.1 v fv hv).2
  rw [hfv] at hev
  obtain ⟨r', hr', cellV, g1, g2, g3, -⟩ := hev
  have hcls := (hw.2.1.1 ci r hc).2
  obtain ⟨kA, comp, k1, k2, k3, -⟩ := (hw.2.1.2 k _ ht).2
  have hcomp : comp = G.1.1 ci := Option.some.inj (k3.symm.trans hcls.1)
  subst hcomp
  obtain ⟨kC, hkC, -⟩ := hcls.2
  refine W.aast hx hb (hw.one hs 0 _ rfl) (fun q h => by cases h) (fun h => by cases h) k1 k2 rfl hkC ⟨h0, by show _ < (arrV _ _ _).slots.size; rw [arrV_size]; exact hlt⟩ g1 (fun q h => by rw [g3] at h; cases h) (by rw [g2]; exact hkC) (by rw [g2]; exact va_assign hcls) rfl rfl hdg fun H1 e z oq => ?_
  refine kk _ H1 _ rfl (hw.wrS hs _ ?_ z oq) z
  show H1[a]? = some (vp_cell _ _)
  rw [e]
  rw [vp_cell_q, vp_cell_q, arrV_store]
  congr 2
  funext q
  by_cases hq : q = i.toNatClampNeg
  · subst hq
    simp [updV, va_up, va_rf]
  · simp [updV, va_up, hq]
end AR
def rmB (f c n l : Nat) : Room := { frames := f, cells := c, slots := n, locals := l }
def mBz (G : GX) (z : Nat) (Sh : SH) (I : MI) (L : ML) (U : State) : Prop := mB G Sh I L U ∧ U.heap.size = z
abbrev CtN (l : Launch) (y : MethodName) (ws : List Cond) (rm : Room) (G : GX) (z : Nat) (Sh : SH) (av : List Value) (I : MI) (L : ML) (K : Nat → SH → MI → ML → Prop) (mc ms : Nat) : Prop := Met l y ws rm (va_Pc av (mBz G z Sh I L)) (va_Qv (fun (u : Nat × SH × MI × ML) => K u.1 u.2.1 u.2.2.1 u.2.2.2) (fun (u : Nat × SH × MI × ML) t => mBz G u.1 u.2.1 u.2.2.1 u.2.2.2 t) (mA G)) mc ms (mA G)
abbrev CtT (l : Launch) (y : MethodName) (ws : List Cond) (rm : Room) (G : GX) (z : Nat) (Sh : SH) (av : List Value) (I : MI) (L : ML) (K : Int32 → Nat → SH → MI → ML → Prop) (mc ms : Nat) : Prop := Met l y ws rm (va_Pc av (mBz G z Sh I L)) (va_Qi (fun (r : Int32) (u : Nat × SH × MI × ML) => K r u.1 u.2.1 u.2.2.1 u.2.2.2) (fun (u : Nat × SH × MI × ML) t => mBz G u.1 u.2.1 u.2.2.1 u.2.2.2 t) (mA G)) mc ms (mA G)
abbrev eN (below : List Frame) (G : GX) (K : Nat → SH → MI → ML → Prop) (mc ms : Nat) (args : Array Value) (s : State) : State → Prop := MQ below (va_Qv (fun (u : Nat × SH × MI × ML) => K u.1 u.2.1 u.2.2.1 u.2.2.2) (fun (u : Nat × SH × MI × ML) t => mBz G u.1 u.2.1 u.2.2.1 u.2.2.2 t) (mA G)) args s mc ms (mA G)
abbrev eT (below : List Frame) (G : GX) (K : Int32 → Nat → SH → MI → ML → Prop) (mc ms : Nat) (args : Array Value) (s : State) : State → Prop := MQ below (va_Qi (fun (r : Int32) (u : Nat × SH × MI × ML) => K r u.1 u.2.1 u.2.2.1 u.2.2.2) (fun (u : Nat × SH × MI × ML) t => mBz G u.1 u.2.1 u.2.2.1 u.2.2.2 t) (mA G)) args s mc ms (mA G)
theorem mBz.blind {G : GX} {z : Nat} {Sh : SH} {I : MI} {L : ML} {av : List Value} : FrameBlind (va_Pc av (mBz G z Sh I L)) := fun a U g mk h => ⟨h.1, h.2.1.moved g mk a, h.2.2⟩
theorem ofN {l : Launch} {y : MethodName} {cc : ByteArray} {maxL : Nat} {ret : Option FieldType} {rm : Room} {own : String} {G : GX} {z : Nat} {Sh : SH} {av : List Value} {I : MI} {L : ML} {mc ms : Nat} {Qc : Array Value → State → Outcome → State → Prop} (hy : plainName y.cls = true) (ho : y.cls = own) (hlen : (lg_sl av).length ≤ maxL)
    (body : ∀ p e s m args below meth c ls, Cx p s m args meth c cc ret maxL own → meth.name = y.name → mW G Sh s I L s.heap [] → s.heap.size = z → lv_has ls maxL (lv_args 0 av) → W p l e rm s m args below meth c s.heap [] 0 0 (MQ below Qc args s mc ms (mA G)) (F0 m 0 ls [])) : Met l y (wM y cc maxL ret) rm (va_Pc av (mBz G z Sh I L)) Qc mc ms (mA G) := by
  refine Met.ofW (cc := cc) (maxL := maxL) (ret := ret) hy rfl ?_
  intro p e s m args below meth c s₁ B hml hv
  obtain ⟨rfl, hv, hz⟩ := hv
  have hts0 := atoms_spec (ws := wM y cc maxL ret) B.pre
  have hown : s.vm.findClass own = some m.cls := by rw [← ho]; exact findClass_of_methodNamed B.named
  have hl := lv_entry av (n := maxL) hlen
  rw [lg_entry_eq]
  generalize (lg_sl av ++ List.replicate (maxL - (lg_sl av).length) Slot.unset).toArray = ls at hl ⊢
  exact body p e s m _ below meth c ls ⟨B.exec, B.bytes, B.returns, hml, hown, fun w h => hts0 w (List.mem_cons_of_mem _ h), B.notSynchronized⟩ (name_of_methodNamed B.named B.method).1 hv.start hz hl
section AC
variable {p : Program} {l : Launch} {e : Env} {R : Room} {s : State} {m : MethodId} {args : Array Value} {below : List Frame} {meth : Method} {c : Code} {H : Heap} {locs : List Loc} {cells slots : Nat} {Q : State → Prop}
variable {cc bytes : ByteArray} {pc maxL nL n index mc ms z : Nat} {ret : Option FieldType} {ls : Array Slot} {rest As : List Value} {a : Nat} {Ts ws : List Cond} {rm : Room} {y : MethodName} {own C host : String} {G : GX} {Sh : SH} {I : MI} {L : ML} {f : Shp}
theorem mW.preI (hw : mW G Sh s I L H locs) (hz : H.size = z) : PreS s H (va_Pc As (mBz G z Sh I L)) As :=
  ⟨mBz.blind, fun U hU hW => ⟨rfl, ⟨by rw [hU]; exact hw.1, va_K.moved hW.alike hw.2.1, by rw [hU]; exact hw.low, wNs.warm hW hw.2.2.2.2⟩, by rw [hU]; exact hz⟩⟩
/-- a private constructor of a nest mate -/
theorem r_cnN {K : Nat → SH → MI → ML → Prop} (S : CallFix p m c cc nL s args Ts own) (hM : CtN l y ws rm G z Sh (.ref a :: As) I L K mc ms) (cw : va_CN R s args own index y host bytes maxL none ws rm mc ms n ∧ y.name = "<init>" ∧ (Cond.instanceMethod y).before args s = true) (hw : mW G Sh s I L H locs) (hz : H.size = z) (hn : As.length = n) {st : List Value} (hst : st = As.reverse ++ .ref a :: rest) (hsz : ls.size = nL) (hW : (rest.map fun v => v.category).sum ≤ 8) (hf : cells + mc ≤ R.cells ∧ slots + ms ≤ R.slots) (hdg : decode cc pc = .ok (.invokespecial index, 3))
    (kk : ∀ (z1 : Nat) (Sh1 : SH) (I1 : MI) (L1 : ML) (H1 : Heap) (locs1 : List Loc), K z1 Sh1 I1 L1 → mW G Sh1 s I1 L1 H1 locs1 → H1.size = z1 → W p l e R s m args below meth c H1 locs1 (cells + mc) (slots + ms) Q (F0 m (pc + 3) ls rest)) : W p l e R s m args below meth c H locs cells slots Q (F0 m pc ls st) :=
  va_callv (va_runIN S hM cw (hw.preI hz) rfl hn hsz hst (lv_room hW) hdg hf) hw.2.2.1 (fun _ _ h => h) (fun _ h => h) (fun u t H1 locs1 ht hvm hk hB _ _ hS => kk u.1 u.2.1 u.2.2.1 u.2.2.2 H1 locs1 hk ⟨by rw [← ht]; exact hB.1.1, hw.2.1, hS, hw.2.2.2⟩ (by rw [← ht]; exact hB.2))
theorem r_cnI {K : Nat → SH → MI → ML → Prop} (S : CallFix p m c cc nL s args Ts own) (hM : CtN l y ws rm G z Sh (.ref a :: As) I L K mc ms) (cw : CallB R s args own index y bytes maxL none ws rm mc ms n ∧ y.name = "<init>" ∧ (Cond.instanceMethod y).before args s = true) (hw : mW G Sh s I L H locs) (hz : H.size = z) (hn : As.length = n) {st : List Value} (hst : st = As.reverse ++ .ref a :: rest) (hsz : ls.size = nL) (hW : (rest.map fun v => v.category).sum ≤ 8) (hf : cells + mc ≤ R.cells ∧ slots + ms ≤ R.slots) (hdg : decode cc pc = .ok (.invokespecial index, 3))
    (kk : ∀ (z1 : Nat) (Sh1 : SH) (I1 : MI) (L1 : ML) (H1 : Heap) (locs1 : List Loc), K z1 Sh1 I1 L1 → mW G Sh1 s I1 L1 H1 locs1 → H1.size = z1 → W p l e R s m args below meth c H1 locs1 (cells + mc) (slots + ms) Q (F0 m (pc + 3) ls rest)) : W p l e R s m args below meth c H locs cells slots Q (F0 m pc ls st) :=
  va_callv (va_runI S hM cw (hw.preI hz) rfl hn hsz hst (lv_room hW) hdg hf) hw.2.2.1 (fun _ _ h => h) (fun _ h => h) (fun u t H1 locs1 ht hvm hk hB _ _ hS => kk u.1 u.2.1 u.2.2.1 u.2.2.2 H1 locs1 hk ⟨by rw [← ht]; exact hB.1.1, hw.2.1, hS, hw.2.2.2⟩ (by rw [← ht]; exact hB.2))
theorem r_cvT {K : Int32 → Nat → SH → MI → ML → Prop} (S : CallFix p m c cc nL s args Ts own) (hM : CtT l y ws rm G z Sh (.ref a :: As) I L K mc ms) (cw : CallW R s args own C index y bytes maxL ret ws rm mc ms n) (hw : mW G Sh s I L H locs) (hz : H.size = z) (hr : ∃ cell : Cell, H[a]? = some cell ∧ cell.vm.isStatics = false ∧ s.vm.findClass C = some cell.cls) (hn : As.length = n) {st : List Value} (hst : st = As.reverse ++ .ref a :: rest) (hsz : ls.size = nL) (hW : (rest.map fun v => v.category).sum ≤ 8) (hf : cells + mc ≤ R.cells ∧ slots + ms ≤ R.slots) (hdg : decode cc pc = .ok (.invokevirtual index, 3))
    (kk : ∀ (r : Int32) (z1 : Nat) (Sh1 : SH) (I1 : MI) (L1 : ML) (H1 : Heap) (locs1 : List Loc), K r z1 Sh1 I1 L1 → mW G Sh1 s I1 L1 H1 locs1 → H1.size = z1 → W p l e R s m args below meth c H1 locs1 (cells + mc) (slots + ms) Q (F0 m (pc + 3) ls (.int r :: rest))) : W p l e R s m args below meth c H locs cells slots Q (F0 m pc ls st) :=
  va_calli (va_runV S hM cw ⟨mBz.blind, hr, (hw.preI (As := .ref a :: As) hz).2⟩ rfl hn hsz hst (lv_room hW) hdg hf) hw.2.2.1 (fun _ _ h => h) (fun _ h => h) (fun r u t H1 locs1 ht hvm hk hB _ _ hS => kk r u.1 u.2.1 u.2.2.1 u.2.2.2 H1 locs1 hk ⟨by rw [← ht]; exact hB.1.1, hw.2.1, hS, hw.2.2.2⟩ (by rw [← ht]; exact hB.2))
theorem r_vretN {K : Nat → SH → MI → ML → Prop} (hx : p.tables.exec = Jvm.exec) (hb : c.code = cc) (hr : meth.sig.returnType = none) (hlocks : meth.locks = false) (hw : mW G Sh s I L H locs) (hz : H.size = z) (hk : (cells ≤ mc ∧ slots ≤ ms) ∧ K z Sh I L) (hdg : decode cc pc = .ok (.return_, 1)) : W p l e R s m args below meth c H locs cells slots (eN below G K mc ms args s) (F0 m pc ls []) :=
  W.widen hk.1.1 hk.1.2 (W.vret hx hb hr (fun t ht hW => ⟨⟨(z, Sh, I, L), rfl, hk.2, (hw.ends ht hW).1, by rw [ht]; exact hz⟩, (hw.ends ht hW).2⟩) hw.2.2.1.2.2 hdg hlocks)
theorem r_iretT {K : Int32 → Nat → SH → MI → ML → Prop} {v : Int32} (hx : p.tables.exec = Jvm.exec) (hb : c.code = cc) (hr : meth.sig.returnType = some .int) (hlocks : meth.locks = false) (hw : mW G Sh s I L H locs) (hz : H.size = z) (hk : (cells ≤ mc ∧ slots ≤ ms) ∧ K v z Sh I L) (hdg : decode cc pc = .ok (.ireturn, 1)) : W p l e R s m args below meth c H locs cells slots (eT below G K mc ms args s) (F0 m pc ls [.int v]) :=
  W.widen hk.1.1 hk.1.2 (W.iret hx hb hr (fun t ht hW => ⟨⟨v, (z, Sh, I, L), rfl, hk.2, (hw.ends ht hW).1, by rw [ht]; exact hz⟩, (hw.ends ht hW).2⟩) hw.2.2.1.2.2 hdg hlocks)
end AC
end
section
/-! constructors and table() (by program, wip/whole/galloc.py) -/
theorem sh_set {Sh Sh1 : SH} {a b : Nat} {f g : Shp} (h : Sh b = some f) (ne : b ≠ a) (e : Sh1 = shu Sh a g) : Sh1 b = some f := by rw [e, shu_off ne]; exact h
theorem shm_at (G : GX) (Sh : SH) (z N K : Nat) : shm G Sh z N K z = some (sQ G 7 N (fun i => if i < N then some (z + 1 + i) else none)) := if_pos rfl
theorem sh_mna {G : GX} {Sh Sh1 : SH} {I : MI} {L : ML} {s : State} {H : Heap} {locs : List Loc} {z a N K : Nat} {f : Shp} (h : mW G Sh s I L H locs) (hz : H.size = z) (hs : Sh a = some f) (e : Sh1 = shm G Sh z N K) : Sh1 a = some f := by
  have hl := h.lt hs
  rw [e]
  unfold shm
  rw [if_neg (by omega), if_neg (by omega)]
  exact hs
section AP
variable {p : Program} {l : Launch} {e : Env} {R : Room} {s : State} {m : MethodId} {args : Array Value} {below : List Frame} {meth : Method} {c : Code} {H : Heap} {locs : List Loc} {cells slots : Nat} {Q : State → Prop}
variable {cc : ByteArray} {pc z : Nat} {ls : Array Slot} {rest : List Value} {a : Nat} {Ts : List Cond} {G : GX} {Sh : SH} {I : MI} {L : ML} {f : Shp}
theorem r_putz (hx : p.tables.exec = Jvm.exec) (hb : c.code = cc) (hts : ∀ w ∈ Ts, w.before args s = true) {own ref C : String} {T : u_T} {N ci index : Nat} (hown : s.vm.findClass own = some m.cls) (hin : ∀ w ∈ u_ws C T N, w ∈ Ts) (ty0 : Nat → FieldType) (hty : ∀ k, k < N → parseFieldDescriptor (T k).2.2.1 = some (ty0 k)) (hnm : ∀ a, a < N → ∀ b, b < N → a ≠ b → (T a).2.1 ≠ (T b).2.1)
    (hw : mW G Sh s I L H locs) (hs : Sh a = some f) {fs : List Value} (hf : f (I a) (L a) = .inr (ci, fs)) (hc : vwCl[ci]? = some (C, T, N)) (k : Nat) (hk : k < N) (hlink : (Cond.fieldLink own index ref (T k).2.1 (T k).2.2.1).before args s = true) (hsame : (T k).1 = ref) (hfin : (T k).2.2.2 = false) {v : Value} (hn : narrow (ty0 k) v = v) (hfit : fits (ty0 k) v = true) (hl : k < fs.length) (I1 : MI) (L1 : ML) (hset : f (I1 a) (L1 a) = .inr (ci, fs.set k v)) (hI : ∀ b, b ≠ a → I1 b = I b) (hL : ∀ b, b ≠ a → L1 b = L b) (hdg : decode cc pc = .ok (.putfield index, 3))
    (kk : ∀ (H1 : Heap) (locs1 : List Loc), mW G Sh s I1 L1 H1 locs1 → H1.size = H.size → W p l e R s m args below meth c H1 locs1 cells slots Q (F0 m (pc + 3) ls rest)) : W p l e R s m args below meth c H locs cells slots Q (F0 m pc ls (v :: .ref a :: rest)) := by
  have hK := hw.2.1
  have hap := va_apart (own := own) hts hin ty0 hty hnm hK hc
  have he := (hw.1 a f hs).2
  rw [hf] at he
  obtain ⟨r, h1, cell, q1, q2, q3, q4⟩ := he
  have hr : r = (C, T, N) := Option.some.inj (h1.symm.trans hc)
  subst hr
  obtain ⟨hS, hfc, kC, hkC, hkind⟩ := hK.1 ci _ hc
  obtain ⟨cf, kf, fi, fd, hi, hsl⟩ := hS k hk
  have hlay := hts _ (hin _ (u_in_lay hk))
  unfold u_lay at hlay
  rw [if_neg (by rw [hfin]; decide)] at hlay
  have hst := (u_facts hfc hkC (u_lays hts hin hk) hi).1
  have h6 := u_store hfc hkC hkind hlay hi (hty k hk) hn hfit
  have hi2 : s.fieldFound? ref (T k).2.1 (T k).2.2.1 = some (cf, kf, fi, fd) := by rw [← hsame]; exact hi
  refine W.putK hx hb (f := fd) ⟨hown, hlink, ⟨_, _, _, hi2⟩, hst⟩ (by rw [q2]; exact h6) q1 q3 (by rw [hsl]; exact k2_hasslot (q4 k hk)) rfl rfl hdg fun H' e1 e2 e3 => ?_
  rw [hsl] at e1 ⊢
  refine kk H' _ (hw.wr hs ?_ hI hL e2 e3) e2
  rw [hset]
  exact ⟨_, hc, t_OB.to (V := updV (vp_V fs) k v) ⟨_, e1, q2, q3, t_set q4 hap hk v⟩ (fun j _ => vp_updV_set hl v j)⟩
theorem r_putiz (hz : H.size = z) (hx : p.tables.exec = Jvm.exec) (hb : c.code = cc) (hts : ∀ w ∈ Ts, w.before args s = true) {own ref C : String} {T : u_T} {N ci index : Nat} (hown : s.vm.findClass own = some m.cls) (hin : ∀ w ∈ u_ws C T N, w ∈ Ts) (ty0 : Nat → FieldType) (hty : ∀ k, k < N → parseFieldDescriptor (T k).2.2.1 = some (ty0 k)) (hnm : ∀ a, a < N → ∀ b, b < N → a ≠ b → (T a).2.1 ≠ (T b).2.1)
    (hw : mW G Sh s I L H locs) (hs : Sh a = some f) {fs : List Value} (hf : f (I a) (L a) = .inr (ci, fs)) (hc : vwCl[ci]? = some (C, T, N)) (k : Nat) (hk : k < N) (hlink : (Cond.fieldLink own index ref (T k).2.1 (T k).2.2.1).before args s = true) (hsame : (T k).1 = ref) (hfin : (T k).2.2.2 = false) {v : Int32} (hn : narrow (ty0 k) (.int v) = .int v) (hfit : fits (ty0 k) (.int v) = true) (hl : k < fs.length) (hset : f (upd (I a) k v) (L a) = .inr (ci, fs.set k (.int v))) (hdg : decode cc pc = .ok (.putfield index, 3))
    (kk : ∀ (I1 : MI) (H1 : Heap) (locs1 : List Loc), I1 = mu I a k v → mW G Sh s I1 L H1 locs1 → H1.size = z → W p l e R s m args below meth c H1 locs1 cells slots Q (F0 m (pc + 3) ls rest)) : W p l e R s m args below meth c H locs cells slots Q (F0 m pc ls (.int v :: .ref a :: rest)) :=
  r_putz hx hb hts hown hin ty0 hty hnm hw hs hf hc k hk hlink hsame hfin hn hfit hl (mu I a k v) L (by rw [mu_at]; exact hset) (fun _ h => mu_off h) (fun _ _ => rfl) hdg (fun H1 locs1 h h2 => kk _ H1 locs1 rfl h (h2.trans hz))
theorem r_putjz (hz : H.size = z) (hx : p.tables.exec = Jvm.exec) (hb : c.code = cc) (hts : ∀ w ∈ Ts, w.before args s = true) {own ref C : String} {T : u_T} {N ci index : Nat} (hown : s.vm.findClass own = some m.cls) (hin : ∀ w ∈ u_ws C T N, w ∈ Ts) (ty0 : Nat → FieldType) (hty : ∀ k, k < N → parseFieldDescriptor (T k).2.2.1 = some (ty0 k)) (hnm : ∀ a, a < N → ∀ b, b < N → a ≠ b → (T a).2.1 ≠ (T b).2.1)
    (hw : mW G Sh s I L H locs) (hs : Sh a = some f) {fs : List Value} (hf : f (I a) (L a) = .inr (ci, fs)) (hc : vwCl[ci]? = some (C, T, N)) (k : Nat) (hk : k < N) (hlink : (Cond.fieldLink own index ref (T k).2.1 (T k).2.2.1).before args s = true) (hsame : (T k).1 = ref) (hfin : (T k).2.2.2 = false) {v : Int64} (hn : narrow (ty0 k) (.long v) = .long v) (hfit : fits (ty0 k) (.long v) = true) (hl : k < fs.length) (hset : f (I a) (vp_updL (L a) k v) = .inr (ci, fs.set k (.long v))) (hdg : decode cc pc = .ok (.putfield index, 3))
    (kk : ∀ (L1 : ML) (H1 : Heap) (locs1 : List Loc), L1 = mul L a k v → mW G Sh s I L1 H1 locs1 → H1.size = z → W p l e R s m args below meth c H1 locs1 cells slots Q (F0 m (pc + 3) ls rest)) : W p l e R s m args below meth c H locs cells slots Q (F0 m pc ls (.long v :: .ref a :: rest)) :=
  r_putz hx hb hts hown hin ty0 hty hnm hw hs hf hc k hk hlink hsame hfin hn hfit hl I (mul L a k v) (by rw [mul_at]; exact hset) (fun _ _ => rfl) (fun _ h => mul_off h) hdg (fun H1 locs1 h h2 => kk _ H1 locs1 rfl h (h2.trans hz))
end AP
-- X0_init
set_option maxRecDepth 100000 in
def wp_X0_init (G : GX) (z : Nat) (Sh : SH) (a0 : Nat) (I : MI) (L : ML) (K : Nat → SH → MI → ML → Prop) : Prop := ∀ I_1 : MI, I_1 = mu I a0 0 (0 : Int32) → ∀ I_2 : MI, I_2 = mu I_1 a0 1 (0 : Int32) → ∀ I_3 : MI, I_3 = mu I_2 a0 2 (0 : Int32) → ∀ I_4 : MI, I_4 = mu I_3 a0 3 (0 : Int32) → ∀ I_5 : MI, I_5 = mu I_4 a0 4 (0 : Int32) → (0 ≤ 0 ∧ 0 ≤ 0) ∧ K z Sh I_5 L
-- X2_init
set_option maxRecDepth 100000 in
def wp_X2_init (G : GX) (z : Nat) (Sh : SH) (a0 : Nat) (I : MI) (L : ML) (K : Nat → SH → MI → ML → Prop) : Prop := ((0 + 25) ≤ 25 ∧ (0 + 240) ≤ 240) ∧ ∀ S_1 : SH, S_1 = shm G Sh z 24 9 → ∀ I_2 : MI, I_2 = mzm I z 24 → z = a0 + 1 ∧ ∀ S_7 : SH, S_7 = shu S_1 a0 (sNeedsK 1 a0) → ((0 + 25) ≤ 25 ∧ (0 + 240) ≤ 240) ∧ K (z + 25) S_7 I_2 L
-- X3_init
set_option maxRecDepth 100000 in
def wp_X3_init (G : GX) (z : Nat) (Sh : SH) (a0 : Nat) (I : MI) (L : ML) (K : Nat → SH → MI → ML → Prop) : Prop := ((0 + 1) ≤ 3 ∧ (0 + 40) ≤ 64) ∧ ∀ S_1 : SH, S_1 = shu Sh z (sC G 40) → ∀ I_2 : MI, I_2 = mz I z → ∀ L_3 : ML, L_3 = mzl L z → z = a0 + 1 ∧ ∀ S_7 : SH, S_7 = shu S_1 a0 (sPreK 1 a0) → ((0 + 2) ≤ 3 ∧ (0 + 52) ≤ 64) ∧ ∀ S_10 : SH, S_10 = shu S_7 (z + 1) (sI G 12) → ∀ I_11 : MI, I_11 = mz I_2 (z + 1) → ∀ L_12 : ML, L_12 = mzl L_3 (z + 1) → (z + 1) = a0 + 2 ∧ ∀ S_16 : SH, S_16 = shu S_10 a0 (sPreK 2 a0) → ((0 + 3) ≤ 3 ∧ (0 + 64) ≤ 64) ∧ ∀ S_19 : SH, S_19 = shu S_16 (z + 2) (sI G 12) → ∀ I_20 : MI, I_20 = mz I_11 (z + 2) → ∀ L_21 : ML, L_21 = mzl L_12 (z + 2) → (z + 2) = a0 + 3 ∧ ∀ S_25 : SH, S_25 = shu S_19 a0 (sPreK 3 a0) → ∀ I_28 : MI, I_28 = mu I_20 a0 3 (0 : Int32) → ∀ I_29 : MI, I_29 = mu I_28 a0 4 (0 : Int32) → ∀ I_30 : MI, I_30 = mu I_29 a0 5 (0 : Int32) → ∀ I_31 : MI, I_31 = mu I_30 a0 6 (-1 : Int32) → ∀ I_32 : MI, I_32 = mu I_31 a0 7 (0 : Int32) → ((0 + 3) ≤ 3 ∧ (0 + 64) ≤ 64) ∧ K (z + 3) S_25 I_32 L_21
-- X4_init
set_option maxRecDepth 100000 in
def wp_X4_init (G : GX) (z : Nat) (Sh : SH) (a0 : Nat) (I : MI) (L : ML) (K : Nat → SH → MI → ML → Prop) : Prop := ((0 + 1) ≤ 3 ∧ (0 + 24) ≤ 72) ∧ ∀ S_1 : SH, S_1 = shu Sh z (sI G 24) → ∀ I_2 : MI, I_2 = mz I z → ∀ L_3 : ML, L_3 = mzl L z → z = a0 + 1 ∧ ∀ S_7 : SH, S_7 = shu S_1 a0 (sRowK 1 a0) → ((0 + 2) ≤ 3 ∧ (0 + 48) ≤ 72) ∧ ∀ S_10 : SH, S_10 = shu S_7 (z + 1) (sI G 24) → ∀ I_11 : MI, I_11 = mz I_2 (z + 1) → ∀ L_12 : ML, L_12 = mzl L_3 (z + 1) → (z + 1) = a0 + 2 ∧ ∀ S_16 : SH, S_16 = shu S_10 a0 (sRowK 2 a0) → ((0 + 3) ≤ 3 ∧ (0 + 72) ≤ 72) ∧ ∀ S_19 : SH, S_19 = shu S_16 (z + 2) (sI G 24) → ∀ I_20 : MI, I_20 = mz I_11 (z + 2) → ∀ L_21 : ML, L_21 = mzl L_12 (z + 2) → (z + 2) = a0 + 3 ∧ ∀ S_25 : SH, S_25 = shu S_19 a0 (sRowK 3 a0) → ∀ I_28 : MI, I_28 = mu I_20 a0 3 (0 : Int32) → ∀ I_29 : MI, I_29 = mu I_28 a0 4 (0 : Int32) → ((0 + 3) ≤ 3 ∧ (0 + 72) ≤ 72) ∧ K (z + 3) S_25 I_29 L_21
-- X1_init
set_option maxRecDepth 100000 in
def wp_X1_init (G : GX) (z : Nat) (Sh : SH) (a0 : Nat) (I : MI) (L : ML) (K : Nat → SH → MI → ML → Prop) : Prop := ((0 + 1) ≤ 32 ∧ (0 + 24) ≤ 388) ∧ ∀ S_1 : SH, S_1 = shu Sh z (sI G 24) → ∀ I_2 : MI, I_2 = mz I z → ∀ L_3 : ML, L_3 = mzl L z → z = a0 + 1 ∧ ∀ S_7 : SH, S_7 = shu S_1 a0 (sLastK 1 a0) → ((0 + 2) ≤ 32 ∧ (0 + 48) ≤ 388) ∧ ∀ S_10 : SH, S_10 = shu S_7 (z + 1) (sZ G 24) → ∀ I_11 : MI, I_11 = mz I_2 (z + 1) → ∀ L_12 : ML, L_12 = mzl L_3 (z + 1) → (z + 1) = a0 + 2 ∧ ∀ S_16 : SH, S_16 = shu S_10 a0 (sLastK 2 a0) → ((0 + 3) ≤ 32 ∧ (0 + 72) ≤ 388) ∧ ∀ S_19 : SH, S_19 = shu S_16 (z + 2) (sJ G 24) → ∀ I_20 : MI, I_20 = mz I_11 (z + 2) → ∀ L_21 : ML, L_21 = mzl L_12 (z + 2) → (z + 2) = a0 + 3 ∧ ∀ S_25 : SH, S_25 = shu S_19 a0 (sLastK 3 a0) → ((0 + 4) ≤ 32 ∧ (0 + 97) ≤ 388) ∧ ∀ S_28 : SH, S_28 = shu S_25 (z + 3) (sI G 25) → ∀ I_29 : MI, I_29 = mz I_20 (z + 3) → ∀ L_30 : ML, L_30 = mzl L_21 (z + 3) → (z + 3) = a0 + 4 ∧ ∀ S_34 : SH, S_34 = shu S_28 a0 (sLastK 4 a0) → ((0 + 5) ≤ 32 ∧ (0 + 122) ≤ 388) ∧ ∀ S_37 : SH, S_37 = shu S_34 (z + 4) (sI G 25) → ∀ I_38 : MI, I_38 = mz I_29 (z + 4) → ∀ L_39 : ML, L_39 = mzl L_30 (z + 4) → (z + 4) = a0 + 5 ∧ ∀ S_43 : SH, S_43 = shu S_37 a0 (sLastK 5 a0) → ((0 + 6) ≤ 32 ∧ (0 + 147) ≤ 388) ∧ ∀ S_46 : SH, S_46 = shu S_43 (z + 5) (sI G 25) → ∀ I_47 : MI, I_47 = mz I_38 (z + 5) → ∀ L_48 : ML, L_48 = mzl L_39 (z + 5) → (z + 5) = a0 + 6 ∧ ∀ S_52 : SH, S_52 = shu S_46 a0 (sLastK 6 a0) → ((0 + 7) ≤ 32 ∧ (0 + 148) ≤ 388) ∧ ∀ S_55 : SH, S_55 = shu S_52 (z + 6) (sNeedsK 0 (z + 6)) → ∀ I_56 : MI, I_56 = mz I_47 (z + 6) → ∀ L_57 : ML, L_57 = mzl L_48 (z + 6) → ((0 + 32) ≤ 32 ∧ (0 + 388) ≤ 388) ∧ wp_X2_init G (z + 7) S_55 (z + 6) I_56 L_57 (fun z_61 S_62 I_63 L_64 => S_62 a0 = some (sLastK 6 a0) ∧ S_62 (z + 6) = some (sNeedsK 1 (z + 6)) ∧ (z + 6) = a0 + 7 ∧ ∀ S_68 : SH, S_68 = shu S_62 a0 (sLastK 7 a0) → ∀ I_71 : MI, I_71 = mu I_63 a0 7 (0 : Int32) → ∀ I_72 : MI, I_72 = mu I_71 a0 8 (0 : Int32) → ∀ L_73 : ML, L_73 = mul L_64 a0 9 (0 : Int64) → ∀ L_74 : ML, L_74 = mul L_73 a0 10 (0 : Int64) → ∀ I_75 : MI, I_75 = mu I_72 a0 11 (-1 : Int32) → ∀ L_76 : ML, L_76 = mul L_74 a0 12 (0 : Int64) → ((0 + 32) ≤ 32 ∧ (0 + 388) ≤ 388) ∧ K z_61 S_68 I_75 L_76)
-- X5_init
def wb_X5_init_104 (G : GX) (a0 : Nat) (K : Nat → SH → MI → ML → Prop) (B104 : Nat → Nat → Nat → Int32 → SH → MI → ML → Prop) (z k ks : Nat) (x : Int32) (Sh : SH) (I : MI) (L : ML) : Prop := ∃ F_88 : Nat → Option Nat, Sh (a0 + 6) = some (sQ G 5 20 F_88) ∧ ((20 : Int32) ≤ x → (k ≤ 133 ∧ ks ≤ 2151) ∧ K z Sh I L) ∧ (¬ (20 : Int32) ≤ x → ∃ F_91 : Nat → Option Nat, Sh (a0 + 6) = some (sQ G 5 20 F_91) ∧ ((k + 1) ≤ 133 ∧ (ks + 5) ≤ 2151) ∧ ∀ S_93 : SH, S_93 = shu Sh z (sRowK 0 z) → ∀ I_94 : MI, I_94 = mz I z → ∀ L_95 : ML, L_95 = mzl L z → ((k + 4) ≤ 133 ∧ (ks + 77) ≤ 2151) ∧ wp_X4_init G (z + 1) S_93 z I_94 L_95 (fun z_100 S_101 I_102 L_103 => S_101 a0 = some (sTableK 5 a0) ∧ S_101 z = some (sRowK 3 z) ∧ S_101 (a0 + 6) = some (sQ G 5 20 F_91) ∧ vp_in x 20 ∧ ∀ S_109 : SH, S_109 = shu S_101 (a0 + 6) (sQ G 5 20 (va_up F_91 (x).toNatClampNeg (some z))) → ∀ x_111 : Int32, x_111 = x + (1 : Int32) → B104 z_100 (k + 4) (ks + 77) (x_111) S_109 I_102 L_103))
def wp_X5_init_104 (G : GX) (a0 : Nat) (K : Nat → SH → MI → ML → Prop) (n : Nat) : Nat → Nat → Nat → Int32 → SH → MI → ML → Prop := Nat.rec (motive := fun _ => Nat → Nat → Nat → Int32 → SH → MI → ML → Prop) (fun _ _ _ _ _ _ _ => False) (fun _ R => wb_X5_init_104 G a0 K R) n
def wb_X5_init_74 (G : GX) (a0 : Nat) (K : Nat → SH → MI → ML → Prop) (B74 : Nat → Nat → Nat → Int32 → SH → MI → ML → Prop) (z k ks : Nat) (x : Int32) (Sh : SH) (I : MI) (L : ML) : Prop := ∃ F_64 : Nat → Option Nat, Sh (a0 + 5) = some (sQ G 4 13 F_64) ∧ ((13 : Int32) ≤ x → ∃ n, wp_X5_init_104 G a0 K n z k ks ((0 : Int32)) Sh I L) ∧ (¬ (13 : Int32) ≤ x → ∃ F_67 : Nat → Option Nat, Sh (a0 + 5) = some (sQ G 4 13 F_67) ∧ ((k + 1) ≤ 133 ∧ (ks + 5) ≤ 2151) ∧ ∀ S_69 : SH, S_69 = shu Sh z sGlue → ∀ I_70 : MI, I_70 = mz I z → ∀ L_71 : ML, L_71 = mzl L z → ((k + 1) ≤ 133 ∧ (ks + 5) ≤ 2151) ∧ wp_X0_init G (z + 1) S_69 z I_70 L_71 (fun z_76 S_77 I_78 L_79 => S_77 a0 = some (sTableK 5 a0) ∧ S_77 z = some sGlue ∧ S_77 (a0 + 5) = some (sQ G 4 13 F_67) ∧ vp_in x 13 ∧ ∀ S_85 : SH, S_85 = shu S_77 (a0 + 5) (sQ G 4 13 (va_up F_67 (x).toNatClampNeg (some z))) → ∀ x_87 : Int32, x_87 = x + (1 : Int32) → B74 z_76 (k + 1) (ks + 5) (x_87) S_85 I_78 L_79))
def wp_X5_init_74 (G : GX) (a0 : Nat) (K : Nat → SH → MI → ML → Prop) (n : Nat) : Nat → Nat → Nat → Int32 → SH → MI → ML → Prop := Nat.rec (motive := fun _ => Nat → Nat → Nat → Int32 → SH → MI → ML → Prop) (fun _ _ _ _ _ _ _ => False) (fun _ R => wb_X5_init_74 G a0 K R) n
set_option maxRecDepth 100000 in
def wp_X5_init (G : GX) (z : Nat) (Sh : SH) (a0 : Nat) (I : MI) (L : ML) (K : Nat → SH → MI → ML → Prop) : Prop := ((0 + 1) ≤ 133 ∧ (0 + 8) ≤ 2151) ∧ ∀ S_1 : SH, S_1 = shu Sh z (sPreK 0 z) → ∀ I_2 : MI, I_2 = mz I z → ∀ L_3 : ML, L_3 = mzl L z → ((0 + 4) ≤ 133 ∧ (0 + 72) ≤ 2151) ∧ wp_X3_init G (z + 1) S_1 z I_2 L_3 (fun z_7 S_8 I_9 L_10 => S_8 a0 = some (sTableK 0 a0) ∧ S_8 z = some (sPreK 3 z) ∧ z = a0 + 1 ∧ ∀ S_14 : SH, S_14 = shu S_8 a0 (sTableK 1 a0) → ((0 + 5) ≤ 133 ∧ (0 + 85) ≤ 2151) ∧ ∀ S_17 : SH, S_17 = shu S_14 z_7 (sQ G 4 13 (fun _ => none)) → ∀ I_18 : MI, I_18 = mz I_9 z_7 → ∀ L_19 : ML, L_19 = mzl L_10 z_7 → z_7 = a0 + 5 ∧ ∀ S_23 : SH, S_23 = shu S_17 a0 (sTableK 2 a0) → ((0 + 6) ≤ 133 ∧ (0 + 105) ≤ 2151) ∧ ∀ S_26 : SH, S_26 = shu S_23 (z_7 + 1) (sQ G 5 20 (fun _ => none)) → ∀ I_27 : MI, I_27 = mz I_18 (z_7 + 1) → ∀ L_28 : ML, L_28 = mzl L_19 (z_7 + 1) → (z_7 + 1) = a0 + 6 ∧ ∀ S_32 : SH, S_32 = shu S_26 a0 (sTableK 3 a0) → ((0 + 7) ≤ 133 ∧ (0 + 145) ≤ 2151) ∧ ∀ S_35 : SH, S_35 = shu S_32 (z_7 + 2) (sI G 40) → ∀ I_36 : MI, I_36 = mz I_27 (z_7 + 2) → ∀ L_37 : ML, L_37 = mzl L_28 (z_7 + 2) → (z_7 + 2) = a0 + 7 ∧ ∀ S_41 : SH, S_41 = shu S_35 a0 (sTableK 4 a0) → ((0 + 8) ≤ 133 ∧ (0 + 158) ≤ 2151) ∧ ∀ S_44 : SH, S_44 = shu S_41 (z_7 + 3) (sLastK 0 (z_7 + 3)) → ∀ I_45 : MI, I_45 = mz I_36 (z_7 + 3) → ∀ L_46 : ML, L_46 = mzl L_37 (z_7 + 3) → ((0 + 40) ≤ 133 ∧ (0 + 546) ≤ 2151) ∧ wp_X1_init G (z_7 + 4) S_44 (z_7 + 3) I_45 L_46 (fun z_50 S_51 I_52 L_53 => S_51 a0 = some (sTableK 4 a0) ∧ S_51 (z_7 + 3) = some (sLastK 7 (z_7 + 3)) ∧ (z_7 + 3) = a0 + 8 ∧ ∀ S_57 : SH, S_57 = shu S_51 a0 (sTableK 5 a0) → ∀ I_60 : MI, I_60 = mu I_52 a0 5 (0 : Int32) → ∀ I_61 : MI, I_61 = mu I_60 a0 6 (0 : Int32) → ∀ I_62 : MI, I_62 = mu I_61 a0 7 (0 : Int32) → ∀ I_63 : MI, I_63 = mu I_62 a0 8 (0 : Int32) → ∃ n, wp_X5_init_74 G a0 K n z_50 (0 + 40) (0 + 546) ((0 : Int32)) S_57 I_63 L_53))
-- X6_init
set_option maxRecDepth 100000 in
def wp_X6_init (G : GX) (z : Nat) (Sh : SH) (a0 : Nat) (I : MI) (L : ML) (K : Nat → SH → MI → ML → Prop) : Prop := ((0 + 1) ≤ 1 ∧ (0 + 6) ≤ 6) ∧ ∀ S_1 : SH, S_1 = shu Sh z (sQ G 6 6 (fun _ => none)) → ∀ I_2 : MI, I_2 = mz I z → ∀ L_3 : ML, L_3 = mzl L z → z = a0 + 1 ∧ ∀ S_7 : SH, S_7 = shu S_1 a0 (sXK 1 a0) → ∀ I_10 : MI, I_10 = mu I_2 a0 1 (0 : Int32) → ((0 + 1) ≤ 1 ∧ (0 + 6) ≤ 6) ∧ K (z + 1) S_7 I_10 L_3
-- X6_table
set_option maxRecDepth 100000 in
def wp_X6_table (G : GX) (z : Nat) (Sh : SH) (a0 : Nat) (I : MI) (L : ML) (K : Int32 → Nat → SH → MI → ML → Prop) : Prop := ((I a0 1) < (6 : Int32) → ∃ F_2 : Nat → Option Nat, Sh (a0 + 1) = some (sQ G 6 6 F_2) ∧ ((0 + 1) ≤ 134 ∧ (0 + 9) ≤ 2160) ∧ ∀ S_4 : SH, S_4 = shu Sh z (sTableK 0 z) → ∀ I_5 : MI, I_5 = mz I z → ∀ L_6 : ML, L_6 = mzl L z → ((0 + 134) ≤ 134 ∧ (0 + 2160) ≤ 2160) ∧ wp_X5_init G (z + 1) S_4 z I_5 L_6 (fun z_11 S_12 I_13 L_14 => S_12 a0 = some (sXK 1 a0) ∧ S_12 z = some (sTableK 5 z) ∧ S_12 (a0 + 1) = some (sQ G 6 6 F_2) ∧ vp_in (I a0 1) 6 ∧ ∀ S_20 : SH, S_20 = shu S_12 (a0 + 1) (sQ G 6 6 (va_up F_2 ((I a0 1)).toNatClampNeg (some z))) → ∀ I_22 : MI, I_22 = mu I_13 a0 1 ((I_13 a0 1) + (1 : Int32)) → ((0 + 134) ≤ 134 ∧ (0 + 2160) ≤ 2160) ∧ K ((I_22 a0 1) - (1 : Int32)) z_11 S_20 I_22 L_14)) ∧ (¬ (I a0 1) < (6 : Int32) → (0 ≤ 134 ∧ 0 ≤ 2160) ∧ K (-4 : Int32) z Sh I L)
-- X7_init
set_option maxRecDepth 100000 in
def wp_X7_init (G : GX) (z : Nat) (Sh : SH) (a0 : Nat) (I : MI) (L : ML) (K : Nat → SH → MI → ML → Prop) : Prop := ((0 + 1) ≤ 34 ∧ (0 + 240) ≤ 11376) ∧ ∀ S_1 : SH, S_1 = shu Sh z (sI G 240) → ∀ I_2 : MI, I_2 = mz I z → ∀ L_3 : ML, L_3 = mzl L z → z = a0 + 1 ∧ ∀ S_7 : SH, S_7 = shu S_1 a0 (sModelK 1 a0) → ((0 + 2) ≤ 34 ∧ (0 + 246) ≤ 11376) ∧ ∀ S_10 : SH, S_10 = shu S_7 (z + 1) (sI G 6) → ∀ I_11 : MI, I_11 = mz I_2 (z + 1) → ∀ L_12 : ML, L_12 = mzl L_3 (z + 1) → (z + 1) = a0 + 2 ∧ ∀ S_16 : SH, S_16 = shu S_10 a0 (sModelK 2 a0) → ((0 + 3) ≤ 34 ∧ (0 + 252) ≤ 11376) ∧ ∀ S_19 : SH, S_19 = shu S_16 (z + 2) (sZ G 6) → ∀ I_20 : MI, I_20 = mz I_11 (z + 2) → ∀ L_21 : ML, L_21 = mzl L_12 (z + 2) → (z + 2) = a0 + 3 ∧ ∀ S_25 : SH, S_25 = shu S_19 a0 (sModelK 3 a0) → ((0 + 4) ≤ 34 ∧ (0 + 258) ≤ 11376) ∧ ∀ S_28 : SH, S_28 = shu S_25 (z + 3) (sI G 6) → ∀ I_29 : MI, I_29 = mz I_20 (z + 3) → ∀ L_30 : ML, L_30 = mzl L_21 (z + 3) → (z + 3) = a0 + 4 ∧ ∀ S_34 : SH, S_34 = shu S_28 a0 (sModelK 4 a0) → ((0 + 5) ≤ 34 ∧ (0 + 264) ≤ 11376) ∧ ∀ S_37 : SH, S_37 = shu S_34 (z + 4) (sI G 6) → ∀ I_38 : MI, I_38 = mz I_29 (z + 4) → ∀ L_39 : ML, L_39 = mzl L_30 (z + 4) → (z + 4) = a0 + 5 ∧ ∀ S_43 : SH, S_43 = shu S_37 a0 (sModelK 5 a0) → ((0 + 6) ≤ 34 ∧ (0 + 336) ≤ 11376) ∧ ∀ S_46 : SH, S_46 = shu S_43 (z + 5) (sI G 72) → ∀ I_47 : MI, I_47 = mz I_38 (z + 5) → ∀ L_48 : ML, L_48 = mzl L_39 (z + 5) → (z + 5) = a0 + 6 ∧ ∀ S_52 : SH, S_52 = shu S_46 a0 (sModelK 6 a0) → ((0 + 7) ≤ 34 ∧ (0 + 408) ≤ 11376) ∧ ∀ S_55 : SH, S_55 = shu S_52 (z + 6) (sI G 72) → ∀ I_56 : MI, I_56 = mz I_47 (z + 6) → ∀ L_57 : ML, L_57 = mzl L_48 (z + 6) → (z + 6) = a0 + 7 ∧ ∀ S_61 : SH, S_61 = shu S_55 a0 (sModelK 7 a0) → ((0 + 8) ≤ 34 ∧ (0 + 486) ≤ 11376) ∧ ∀ S_64 : SH, S_64 = shu S_61 (z + 7) (sI G 78) → ∀ I_65 : MI, I_65 = mz I_56 (z + 7) → ∀ L_66 : ML, L_66 = mzl L_57 (z + 7) → (z + 7) = a0 + 8 ∧ ∀ S_70 : SH, S_70 = shu S_64 a0 (sModelK 8 a0) → ((0 + 9) ≤ 34 ∧ (0 + 564) ≤ 11376) ∧ ∀ S_73 : SH, S_73 = shu S_70 (z + 8) (sI G 78) → ∀ I_74 : MI, I_74 = mz I_65 (z + 8) → ∀ L_75 : ML, L_75 = mzl L_66 (z + 8) → (z + 8) = a0 + 9 ∧ ∀ S_79 : SH, S_79 = shu S_73 a0 (sModelK 9 a0) → ((0 + 10) ≤ 34 ∧ (0 + 642) ≤ 11376) ∧ ∀ S_82 : SH, S_82 = shu S_79 (z + 9) (sI G 78) → ∀ I_83 : MI, I_83 = mz I_74 (z + 9) → ∀ L_84 : ML, L_84 = mzl L_75 (z + 9) → (z + 9) = a0 + 10 ∧ ∀ S_88 : SH, S_88 = shu S_82 a0 (sModelK 10 a0) → ((0 + 11) ≤ 34 ∧ (0 + 720) ≤ 11376) ∧ ∀ S_91 : SH, S_91 = shu S_88 (z + 10) (sI G 78) → ∀ I_92 : MI, I_92 = mz I_83 (z + 10) → ∀ L_93 : ML, L_93 = mzl L_84 (z + 10) → (z + 10) = a0 + 11 ∧ ∀ S_97 : SH, S_97 = shu S_91 a0 (sModelK 11 a0) → ((0 + 12) ≤ 34 ∧ (0 + 798) ≤ 11376) ∧ ∀ S_100 : SH, S_100 = shu S_97 (z + 11) (sI G 78) → ∀ I_101 : MI, I_101 = mz I_92 (z + 11) → ∀ L_102 : ML, L_102 = mzl L_93 (z + 11) → (z + 11) = a0 + 12 ∧ ∀ S_106 : SH, S_106 = shu S_100 a0 (sModelK 12 a0) → ((0 + 13) ≤ 34 ∧ (0 + 804) ≤ 11376) ∧ ∀ S_109 : SH, S_109 = shu S_106 (z + 12) (sI G 6) → ∀ I_110 : MI, I_110 = mz I_101 (z + 12) → ∀ L_111 : ML, L_111 = mzl L_102 (z + 12) → (z + 12) = a0 + 13 ∧ ∀ S_115 : SH, S_115 = shu S_109 a0 (sModelK 13 a0) → ((0 + 14) ≤ 34 ∧ (0 + 810) ≤ 11376) ∧ ∀ S_118 : SH, S_118 = shu S_115 (z + 13) (sZ G 6) → ∀ I_119 : MI, I_119 = mz I_110 (z + 13) → ∀ L_120 : ML, L_120 = mzl L_111 (z + 13) → (z + 13) = a0 + 14 ∧ ∀ S_124 : SH, S_124 = shu S_118 a0 (sModelK 14 a0) → ((0 + 15) ≤ 34 ∧ (0 + 930) ≤ 11376) ∧ ∀ S_127 : SH, S_127 = shu S_124 (z + 14) (sI G 120) → ∀ I_128 : MI, I_128 = mz I_119 (z + 14) → ∀ L_129 : ML, L_129 = mzl L_120 (z + 14) → (z + 14) = a0 + 15 ∧ ∀ S_133 : SH, S_133 = shu S_127 a0 (sModelK 15 a0) → ((0 + 16) ≤ 34 ∧ (0 + 1050) ≤ 11376) ∧ ∀ S_136 : SH, S_136 = shu S_133 (z + 15) (sI G 120) → ∀ I_137 : MI, I_137 = mz I_128 (z + 15) → ∀ L_138 : ML, L_138 = mzl L_129 (z + 15) → (z + 15) = a0 + 16 ∧ ∀ S_142 : SH, S_142 = shu S_136 a0 (sModelK 16 a0) → ((0 + 17) ≤ 34 ∧ (0 + 1056) ≤ 11376) ∧ ∀ S_145 : SH, S_145 = shu S_142 (z + 16) (sI G 6) → ∀ I_146 : MI, I_146 = mz I_137 (z + 16) → ∀ L_147 : ML, L_147 = mzl L_138 (z + 16) → (z + 16) = a0 + 17 ∧ ∀ S_151 : SH, S_151 = shu S_145 a0 (sModelK 17 a0) → ((0 + 18) ≤ 34 ∧ (0 + 3936) ≤ 11376) ∧ ∀ S_154 : SH, S_154 = shu S_151 (z + 17) (sI G 2880) → ∀ I_155 : MI, I_155 = mz I_146 (z + 17) → ∀ L_156 : ML, L_156 = mzl L_147 (z + 17) → (z + 17) = a0 + 18 ∧ ∀ S_160 : SH, S_160 = shu S_154 a0 (sModelK 18 a0) → ((0 + 19) ≤ 34 ∧ (0 + 6816) ≤ 11376) ∧ ∀ S_163 : SH, S_163 = shu S_160 (z + 18) (sI G 2880) → ∀ I_164 : MI, I_164 = mz I_155 (z + 18) → ∀ L_165 : ML, L_165 = mzl L_156 (z + 18) → (z + 18) = a0 + 19 ∧ ∀ S_169 : SH, S_169 = shu S_163 a0 (sModelK 19 a0) → ((0 + 20) ≤ 34 ∧ (0 + 9696) ≤ 11376) ∧ ∀ S_172 : SH, S_172 = shu S_169 (z + 19) (sI G 2880) → ∀ I_173 : MI, I_173 = mz I_164 (z + 19) → ∀ L_174 : ML, L_174 = mzl L_165 (z + 19) → (z + 19) = a0 + 20 ∧ ∀ S_178 : SH, S_178 = shu S_172 a0 (sModelK 20 a0) → ((0 + 21) ≤ 34 ∧ (0 + 9702) ≤ 11376) ∧ ∀ S_181 : SH, S_181 = shu S_178 (z + 20) (sI G 6) → ∀ I_182 : MI, I_182 = mz I_173 (z + 20) → ∀ L_183 : ML, L_183 = mzl L_174 (z + 20) → (z + 20) = a0 + 21 ∧ ∀ S_187 : SH, S_187 = shu S_181 a0 (sModelK 21 a0) → ((0 + 22) ≤ 34 ∧ (0 + 9942) ≤ 11376) ∧ ∀ S_190 : SH, S_190 = shu S_187 (z + 21) (sI G 240) → ∀ I_191 : MI, I_191 = mz I_182 (z + 21) → ∀ L_192 : ML, L_192 = mzl L_183 (z + 21) → (z + 21) = a0 + 22 ∧ ∀ S_196 : SH, S_196 = shu S_190 a0 (sModelK 22 a0) → ((0 + 23) ≤ 34 ∧ (0 + 9948) ≤ 11376) ∧ ∀ S_199 : SH, S_199 = shu S_196 (z + 22) (sI G 6) → ∀ I_200 : MI, I_200 = mz I_191 (z + 22) → ∀ L_201 : ML, L_201 = mzl L_192 (z + 22) → (z + 22) = a0 + 23 ∧ ∀ S_205 : SH, S_205 = shu S_199 a0 (sModelK 23 a0) → ((0 + 24) ≤ 34 ∧ (0 + 9954) ≤ 11376) ∧ ∀ S_208 : SH, S_208 = shu S_205 (z + 23) (sI G 6) → ∀ I_209 : MI, I_209 = mz I_200 (z + 23) → ∀ L_210 : ML, L_210 = mzl L_201 (z + 23) → (z + 23) = a0 + 24 ∧ ∀ S_214 : SH, S_214 = shu S_208 a0 (sModelK 24 a0) → ((0 + 25) ≤ 34 ∧ (0 + 9960) ≤ 11376) ∧ ∀ S_217 : SH, S_217 = shu S_214 (z + 24) (sI G 6) → ∀ I_218 : MI, I_218 = mz I_209 (z + 24) → ∀ L_219 : ML, L_219 = mzl L_210 (z + 24) → (z + 24) = a0 + 25 ∧ ∀ S_223 : SH, S_223 = shu S_217 a0 (sModelK 25 a0) → ((0 + 26) ≤ 34 ∧ (0 + 10104) ≤ 11376) ∧ ∀ S_226 : SH, S_226 = shu S_223 (z + 25) (sI G 144) → ∀ I_227 : MI, I_227 = mz I_218 (z + 25) → ∀ L_228 : ML, L_228 = mzl L_219 (z + 25) → (z + 25) = a0 + 26 ∧ ∀ S_232 : SH, S_232 = shu S_226 a0 (sModelK 26 a0) → ((0 + 27) ≤ 34 ∧ (0 + 10248) ≤ 11376) ∧ ∀ S_235 : SH, S_235 = shu S_232 (z + 26) (sZ G 144) → ∀ I_236 : MI, I_236 = mz I_227 (z + 26) → ∀ L_237 : ML, L_237 = mzl L_228 (z + 26) → (z + 26) = a0 + 27 ∧ ∀ S_241 : SH, S_241 = shu S_235 a0 (sModelK 27 a0) → ((0 + 28) ≤ 34 ∧ (0 + 10392) ≤ 11376) ∧ ∀ S_244 : SH, S_244 = shu S_241 (z + 27) (sJ G 144) → ∀ I_245 : MI, I_245 = mz I_236 (z + 27) → ∀ L_246 : ML, L_246 = mzl L_237 (z + 27) → (z + 27) = a0 + 28 ∧ ∀ S_250 : SH, S_250 = shu S_244 a0 (sModelK 28 a0) → ((0 + 29) ≤ 34 ∧ (0 + 10398) ≤ 11376) ∧ ∀ S_253 : SH, S_253 = shu S_250 (z + 28) (sJ G 6) → ∀ I_254 : MI, I_254 = mz I_245 (z + 28) → ∀ L_255 : ML, L_255 = mzl L_246 (z + 28) → (z + 28) = a0 + 29 ∧ ∀ S_259 : SH, S_259 = shu S_253 a0 (sModelK 29 a0) → ((0 + 30) ≤ 34 ∧ (0 + 10404) ≤ 11376) ∧ ∀ S_262 : SH, S_262 = shu S_259 (z + 29) (sJ G 6) → ∀ I_263 : MI, I_263 = mz I_254 (z + 29) → ∀ L_264 : ML, L_264 = mzl L_255 (z + 29) → (z + 29) = a0 + 30 ∧ ∀ S_268 : SH, S_268 = shu S_262 a0 (sModelK 30 a0) → ((0 + 31) ≤ 34 ∧ (0 + 10410) ≤ 11376) ∧ ∀ S_271 : SH, S_271 = shu S_268 (z + 30) (sI G 6) → ∀ I_272 : MI, I_272 = mz I_263 (z + 30) → ∀ L_273 : ML, L_273 = mzl L_264 (z + 30) → (z + 30) = a0 + 31 ∧ ∀ S_277 : SH, S_277 = shu S_271 a0 (sModelK 31 a0) → ((0 + 32) ≤ 34 ∧ (0 + 10416) ≤ 11376) ∧ ∀ S_280 : SH, S_280 = shu S_277 (z + 31) (sJ G 6) → ∀ I_281 : MI, I_281 = mz I_272 (z + 31) → ∀ L_282 : ML, L_282 = mzl L_273 (z + 31) → (z + 31) = a0 + 32 ∧ ∀ S_286 : SH, S_286 = shu S_280 a0 (sModelK 32 a0) → ((0 + 33) ≤ 34 ∧ (0 + 10896) ≤ 11376) ∧ ∀ S_289 : SH, S_289 = shu S_286 (z + 32) (sI G 480) → ∀ I_290 : MI, I_290 = mz I_281 (z + 32) → ∀ L_291 : ML, L_291 = mzl L_282 (z + 32) → (z + 32) = a0 + 33 ∧ ∀ S_295 : SH, S_295 = shu S_289 a0 (sModelK 33 a0) → ((0 + 34) ≤ 34 ∧ (0 + 11376) ≤ 11376) ∧ ∀ S_298 : SH, S_298 = shu S_295 (z + 33) (sI G 480) → ∀ I_299 : MI, I_299 = mz I_290 (z + 33) → ∀ L_300 : ML, L_300 = mzl L_291 (z + 33) → (z + 33) = a0 + 34 ∧ ∀ S_304 : SH, S_304 = shu S_298 a0 (sModelK 34 a0) → ((0 + 34) ≤ 34 ∧ (0 + 11376) ≤ 11376) ∧ K (z + 34) S_304 I_299 L_300
end
section
section CWN
variable {R : Room} {s : State} {args : Array Value}
theorem cw_X6_19 (hts : ∀ w ∈ wsA, w.before args s = true) (hR : 3 + 1 ≤ R.frames ∧ 8 + (2 + 11) + 54 ≤ R.locals) : CallB R s args RX6 19 yX5_init cX5_init 2 none (wM yX5_init cX5_init 2 none) (rmB 3 133 2151 54) 133 2151 0 ∧ yX5_init.name = "<init>" ∧ (Cond.instanceMethod yX5_init).before args s = true :=
  cwI 0 hts (lk_C k_75) rfl rfl rfl (hts _ k_37) (hts _ k_73) (hts _ k_74) rfl (by decide +kernel) hR
theorem cw_X1_34 {G : GX} {Sh : SH} {I : MI} {L : ML} {H : Heap} {locs : List Loc} (hts : ∀ w ∈ wsA, w.before args s = true) (hw : mW G Sh s I L H locs) (hR : 1 + 1 ≤ R.frames ∧ 8 + (1 + 11) + 14 ≤ R.locals) : va_CN R s args RX1 34 yX2_init "AlignRows" cX2_init 1 none (wM yX2_init cX2_init 1 none) (rmB 1 25 240 14) 25 240 0 ∧ yX2_init.name = "<init>" ∧ (Cond.instanceMethod yX2_init).before args s = true :=
  ⟨va_cnB 0 hts (lk_C k_129) rfl rfl rfl (hw.nw n_127) (hts _ k_40) (by decide +kernel) hR, rfl, hts _ k_128⟩
theorem cw_X5_11 {G : GX} {Sh : SH} {I : MI} {L : ML} {H : Heap} {locs : List Loc} (hts : ∀ w ∈ wsA, w.before args s = true) (hw : mW G Sh s I L H locs) (hR : 1 + 1 ≤ R.frames ∧ 8 + (1 + 11) + 14 ≤ R.locals) : va_CN R s args RX5 11 yX3_init "AlignRows" cX3_init 1 none (wM yX3_init cX3_init 1 none) (rmB 1 3 64 14) 3 64 0 ∧ yX3_init.name = "<init>" ∧ (Cond.instanceMethod yX3_init).before args s = true :=
  ⟨va_cnB 0 hts (lk_C k_81) rfl rfl rfl (hw.nw n_79) (hts _ k_38) (by decide +kernel) hR, rfl, hts _ k_80⟩
theorem cw_X5_36 {G : GX} {Sh : SH} {I : MI} {L : ML} {H : Heap} {locs : List Loc} (hts : ∀ w ∈ wsA, w.before args s = true) (hw : mW G Sh s I L H locs) (hR : 2 + 1 ≤ R.frames ∧ 8 + (1 + 11) + 34 ≤ R.locals) : va_CN R s args RX5 36 yX1_init "AlignRows" cX1_init 1 none (wM yX1_init cX1_init 1 none) (rmB 2 32 388 34) 32 388 0 ∧ yX1_init.name = "<init>" ∧ (Cond.instanceMethod yX1_init).before args s = true :=
  ⟨va_cnB 0 hts (lk_C k_123) rfl rfl rfl (hw.nw n_121) (hts _ k_39) (by decide +kernel) hR, rfl, hts _ k_122⟩
theorem cw_X5_55 {G : GX} {Sh : SH} {I : MI} {L : ML} {H : Heap} {locs : List Loc} (hts : ∀ w ∈ wsA, w.before args s = true) (hw : mW G Sh s I L H locs) (hR : 1 + 1 ≤ R.frames ∧ 8 + (1 + 11) + 14 ≤ R.locals) : va_CN R s args RX5 55 yX0_init "AlignRows" cX0_init 1 none (wM yX0_init cX0_init 1 none) (rmB 1 0 0 14) 0 0 0 ∧ yX0_init.name = "<init>" ∧ (Cond.instanceMethod yX0_init).before args s = true :=
  ⟨va_cnB 0 hts (lk_C k_185) rfl rfl rfl (hw.nw n_183) (hts _ k_41) (by decide +kernel) hR, rfl, hts _ k_184⟩
theorem cw_X5_56 {G : GX} {Sh : SH} {I : MI} {L : ML} {H : Heap} {locs : List Loc} (hts : ∀ w ∈ wsA, w.before args s = true) (hw : mW G Sh s I L H locs) (hR : 1 + 1 ≤ R.frames ∧ 8 + (1 + 11) + 14 ≤ R.locals) : va_CN R s args RX5 56 yX4_init "AlignRows" cX4_init 1 none (wM yX4_init cX4_init 1 none) (rmB 1 3 72 14) 3 72 0 ∧ yX4_init.name = "<init>" ∧ (Cond.instanceMethod yX4_init).before args s = true :=
  ⟨va_cnB 0 hts (lk_C k_211) rfl rfl rfl (hw.nw n_209) (hts _ k_42) (by decide +kernel) hR, rfl, hts _ k_210⟩
end CWN
set_option maxHeartbeats 4000000 in
set_option maxRecDepth 100000 in
theorem c_X0_init (l : Launch) (G : GX) {z : Nat} {Sh : SH} {a0 : Nat} (h0 : Sh a0 = some sGlue) {I : MI} {L : ML} {K : Nat → SH → MI → ML → Prop} (hp : wp_X0_init G z Sh a0 I L K) : CtN l yX0_init (wM yX0_init cX0_init 1 none) (rmB 1 0 0 14) G z Sh [.ref a0] I L K 0 0 := by
  refine ofN (own := RX0) (by decide) rfl (Nat.le_of_ble_eq_true rfl) ?_
  intro p e s m args below meth c ls C hin hw hz hl
  obtain ⟨hx, hb, hr, hml, hown, hts, hlocks⟩ := id C
  replace hl : lv_has ls 1 [(0, .ref a0)] := hl
  unfold wp_X0_init at hp
  refine lv_aload_n hx hb dX0_init_0 rfl (lv_at hl 0 rfl) ?_
  refine W.objInit hx hb hown (hts _ k_186) (hts _ k_57) (hts _ k_58) rfl (by rw [hml]; exact hl.1) rfl dX0_init_1 (Nat.le_of_ble_eq_true rfl) (Nat.le_of_ble_eq_true rfl) ?_
  refine W.eq (g2 := F0 m 4 ls []) rfl ?_
  refine lv_aload_n hx hb dX0_init_4 rfl (lv_at hl 0 rfl) ?_
  refine lv_iconst (v := 0) hx hb dX0_init_5 (by decide) ?_
  have hz0 := hz
  refine r_putiz hz (C := RX0) (T := TX0) (N := 5) hx hb hts hown i_X0 tyX0 tyX0_ok nmX0 hw (h0) rfl rfl 0 (by decide) (hts _ k_187) rfl rfl rfl rfl (Nat.le_of_ble_eq_true rfl) rfl dX0_init_6 (fun I_1 H locs eI_1 hw hz => ?_)
  replace hp := hp I_1 eI_1
  refine lv_aload_n hx hb dX0_init_9 rfl (lv_at hl 0 rfl) ?_
  refine lv_iconst (v := 0) hx hb dX0_init_10 (by decide) ?_
  have hz0 := hz
  refine r_putiz hz (C := RX0) (T := TX0) (N := 5) hx hb hts hown i_X0 tyX0 tyX0_ok nmX0 hw (h0) rfl rfl 1 (by decide) (hts _ k_189) rfl rfl rfl rfl (Nat.le_of_ble_eq_true rfl) rfl dX0_init_11 (fun I_2 H locs eI_2 hw hz => ?_)
  replace hp := hp I_2 eI_2
  refine lv_aload_n hx hb dX0_init_14 rfl (lv_at hl 0 rfl) ?_
  refine lv_iconst (v := 0) hx hb dX0_init_15 (by decide) ?_
  have hz0 := hz
  refine r_putiz hz (C := RX0) (T := TX0) (N := 5) hx hb hts hown i_X0 tyX0 tyX0_ok nmX0 hw (h0) rfl rfl 2 (by decide) (hts _ k_191) rfl rfl rfl rfl (Nat.le_of_ble_eq_true rfl) rfl dX0_init_16 (fun I_3 H locs eI_3 hw hz => ?_)
  replace hp := hp I_3 eI_3
  refine lv_aload_n hx hb dX0_init_19 rfl (lv_at hl 0 rfl) ?_
  refine lv_iconst (v := 0) hx hb dX0_init_20 (by decide) ?_
  have hz0 := hz
  refine r_putiz hz (C := RX0) (T := TX0) (N := 5) hx hb hts hown i_X0 tyX0 tyX0_ok nmX0 hw (h0) rfl rfl 3 (by decide) (hts _ k_193) rfl rfl rfl rfl (Nat.le_of_ble_eq_true rfl) rfl dX0_init_21 (fun I_4 H locs eI_4 hw hz => ?_)
  replace hp := hp I_4 eI_4
  refine lv_aload_n hx hb dX0_init_24 rfl (lv_at hl 0 rfl) ?_
  refine lv_iconst (v := 0) hx hb dX0_init_25 (by decide) ?_
  have hz0 := hz
  refine r_putiz hz (C := RX0) (T := TX0) (N := 5) hx hb hts hown i_X0 tyX0 tyX0_ok nmX0 hw (h0) rfl rfl 4 (by decide) (hts _ k_195) rfl rfl rfl rfl (Nat.le_of_ble_eq_true rfl) rfl dX0_init_26 (fun I_5 H locs eI_5 hw hz => ?_)
  replace hp := hp I_5 eI_5
  exact r_vretN hx hb hr hlocks hw hz hp dX0_init_29
set_option maxHeartbeats 4000000 in
set_option maxRecDepth 100000 in
theorem c_X2_init (l : Launch) (G : GX) {z : Nat} {Sh : SH} {a0 : Nat} (h0 : Sh a0 = some (sNeedsK 0 a0)) {I : MI} {L : ML} {K : Nat → SH → MI → ML → Prop} (hp : wp_X2_init G z Sh a0 I L K) : CtN l yX2_init (wM yX2_init cX2_init 1 none) (rmB 1 25 240 14) G z Sh [.ref a0] I L K 25 240 := by
  refine ofN (own := RX2) (by decide) rfl (Nat.le_of_ble_eq_true rfl) ?_
  intro p e s m args below meth c ls C hin hw hz hl
  obtain ⟨hx, hb, hr, hml, hown, hts, hlocks⟩ := id C
  replace hl : lv_has ls 1 [(0, .ref a0)] := hl
  unfold wp_X2_init at hp
  refine lv_aload_n hx hb dX2_init_0 rfl (lv_at hl 0 rfl) ?_
  refine W.objInit hx hb hown (hts _ k_130) (hts _ k_57) (hts _ k_58) rfl (by rw [hml]; exact hl.1) rfl dX2_init_1 (Nat.le_of_ble_eq_true rfl) (Nat.le_of_ble_eq_true rfl) ?_
  refine W.eq (g2 := F0 m 4 ls []) rfl ?_
  refine lv_aload_n hx hb dX2_init_4 rfl (lv_at hl 0 rfl) ?_
  refine lv_bipush (v := 24) hx hb dX2_init_5 (by decide) ?_
  refine lv_bipush (v := 9) hx hb dX2_init_7 (by decide) ?_
  obtain ⟨hk_4, hp⟩ := hp
  refine r_mna (N' := 24) (K' := 9) hx hb hown (hts _ k_131) (hw.2.2.2.2.2 _ o_132) (hts _ k_114) hw hz (by decide) (by decide) (by decide) (by decide) (Nat.le_of_ble_eq_true rfl) (Nat.le_of_ble_eq_true rfl) (Nat.le_of_ble_eq_true rfl) (by have := hk_4.1; exact this) (by have := hk_4.2; exact this) dX2_init_9 (fun S_1 I_2 H eS_1 eI_2 hw1 hz1 => ?_)
  replace hp := hp S_1 eS_1 I_2 eI_2
  have hs_6 := sh_mna hw hz (h0) eS_1
  have hs_5 : S_1 z = some (sQ G 7 24 (fun i => if i < 24 then some (z + 1 + i) else none)) := by rw [eS_1]; exact shm_at _ _ _ _ _
  have hw := hw1
  have hz := hz1
  obtain ⟨hv_8, hp⟩ := hp
  refine r_putF (C := RX2) (T := TX2) (N := 1) hx hb hts hown i_X2 tyX2 tyX2_ok nmX2 hw (hs_6) rfl rfl 0 (by decide) (hts _ k_133) rfl rfl hin rfl rfl (Nat.le_of_ble_eq_true rfl) (sNeedsK 1 a0) (by rw [hv_8]; rfl) dX2_init_13 (fun S_7 H locs eS_7 hw hz1 => ?_)
  replace hp := hp S_7 eS_7
  replace hz := hz1.trans hz
  have hs_9 : S_7 a0 = some (sNeedsK 1 a0) := by rw [eS_7]; exact shu_at _ _ _
  exact r_vretN hx hb hr hlocks hw hz hp dX2_init_16
set_option maxHeartbeats 4000000 in
set_option maxRecDepth 100000 in
theorem c_X3_init (l : Launch) (G : GX) {z : Nat} {Sh : SH} {a0 : Nat} (h0 : Sh a0 = some (sPreK 0 a0)) {I : MI} {L : ML} {K : Nat → SH → MI → ML → Prop} (hp : wp_X3_init G z Sh a0 I L K) : CtN l yX3_init (wM yX3_init cX3_init 1 none) (rmB 1 3 64 14) G z Sh [.ref a0] I L K 3 64 := by
  refine ofN (own := RX3) (by decide) rfl (Nat.le_of_ble_eq_true rfl) ?_
  intro p e s m args below meth c ls C hin hw hz hl
  obtain ⟨hx, hb, hr, hml, hown, hts, hlocks⟩ := id C
  replace hl : lv_has ls 1 [(0, .ref a0)] := hl
  unfold wp_X3_init at hp
  refine lv_aload_n hx hb dX3_init_0 rfl (lv_at hl 0 rfl) ?_
  refine W.objInit hx hb hown (hts _ k_82) (hts _ k_57) (hts _ k_58) rfl (by rw [hml]; exact hl.1) rfl dX3_init_1 (Nat.le_of_ble_eq_true rfl) (Nat.le_of_ble_eq_true rfl) ?_
  refine W.eq (g2 := F0 m 4 ls []) rfl ?_
  refine lv_aload_n hx hb dX3_init_4 rfl (lv_at hl 0 rfl) ?_
  refine lv_bipush (v := 40) hx hb dX3_init_5 (by decide) ?_
  obtain ⟨hk_4, hp⟩ := hp
  refine r_newC (N' := 40) hx hb (hts _ k_113) hw hz (by decide) (by decide) (Nat.le_of_ble_eq_true rfl) hk_4.1 hk_4.2 dX3_init_7 (fun S_1 I_2 L_3 H eS_1 eI_2 eL_3 hw1 hz1 => ?_)
  replace hp := hp S_1 eS_1 I_2 eI_2 L_3 eL_3
  have hs_6 := sh_new hw hz (h0) eS_1
  have hs_5 : S_1 z = some (sC G 40) := by rw [eS_1]; exact shu_at _ _ _
  have hw := hw1
  have hz := hz1
  obtain ⟨hv_8, hp⟩ := hp
  refine r_putF (C := RX3) (T := TX3) (N := 8) hx hb hts hown i_X3 tyX3 tyX3_ok nmX3 hw (hs_6) rfl rfl 0 (by decide) (hts _ k_83) rfl rfl hin rfl rfl (Nat.le_of_ble_eq_true rfl) (sPreK 1 a0) (by rw [hv_8]; rfl) dX3_init_9 (fun S_7 H locs eS_7 hw hz1 => ?_)
  replace hp := hp S_7 eS_7
  replace hz := hz1.trans hz
  have hs_9 : S_7 a0 = some (sPreK 1 a0) := by rw [eS_7]; exact shu_at _ _ _
  refine lv_aload_n hx hb dX3_init_12 rfl (lv_at hl 0 rfl) ?_
  refine lv_bipush (v := 12) hx hb dX3_init_13 (by decide) ?_
  obtain ⟨hk_13, hp⟩ := hp
  refine r_newI (N' := 12) hx hb (hts _ k_114) hw hz (by decide) (by decide) (Nat.le_of_ble_eq_true rfl) hk_13.1 hk_13.2 dX3_init_15 (fun S_10 I_11 L_12 H eS_10 eI_11 eL_12 hw1 hz1 => ?_)
  replace hp := hp S_10 eS_10 I_11 eI_11 L_12 eL_12
  have hs_15 := sh_new hw hz (hs_9) eS_10
  have hs_14 : S_10 (z + 1) = some (sI G 12) := by rw [eS_10]; exact shu_at _ _ _
  have hw := hw1
  have hz := hz1
  obtain ⟨hv_17, hp⟩ := hp
  refine r_putF (C := RX3) (T := TX3) (N := 8) hx hb hts hown i_X3 tyX3 tyX3_ok nmX3 hw (hs_15) rfl rfl 1 (by decide) (hts _ k_84) rfl rfl hin rfl rfl (Nat.le_of_ble_eq_true rfl) (sPreK 2 a0) (by rw [hv_17]; rfl) dX3_init_17 (fun S_16 H locs eS_16 hw hz1 => ?_)
  replace hp := hp S_16 eS_16
  replace hz := hz1.trans hz
  have hs_18 : S_16 a0 = some (sPreK 2 a0) := by rw [eS_16]; exact shu_at _ _ _
  refine lv_aload_n hx hb dX3_init_20 rfl (lv_at hl 0 rfl) ?_
  refine lv_bipush (v := 12) hx hb dX3_init_21 (by decide) ?_
  obtain ⟨hk_22, hp⟩ := hp
  refine r_newI (N' := 12) hx hb (hts _ k_114) hw hz (by decide) (by decide) (Nat.le_of_ble_eq_true rfl) hk_22.1 hk_22.2 dX3_init_23 (fun S_19 I_20 L_21 H eS_19 eI_20 eL_21 hw1 hz1 => ?_)
  replace hp := hp S_19 eS_19 I_20 eI_20 L_21 eL_21
  have hs_24 := sh_new hw hz (hs_18) eS_19
  have hs_23 : S_19 (z + 2) = some (sI G 12) := by rw [eS_19]; exact shu_at _ _ _
  have hw := hw1
  have hz := hz1
  obtain ⟨hv_26, hp⟩ := hp
  refine r_putF (C := RX3) (T := TX3) (N := 8) hx hb hts hown i_X3 tyX3 tyX3_ok nmX3 hw (hs_24) rfl rfl 2 (by decide) (hts _ k_85) rfl rfl hin rfl rfl (Nat.le_of_ble_eq_true rfl) (sPreK 3 a0) (by rw [hv_26]; rfl) dX3_init_25 (fun S_25 H locs eS_25 hw hz1 => ?_)
  replace hp := hp S_25 eS_25
  replace hz := hz1.trans hz
  have hs_27 : S_25 a0 = some (sPreK 3 a0) := by rw [eS_25]; exact shu_at _ _ _
  refine lv_aload_n hx hb dX3_init_28 rfl (lv_at hl 0 rfl) ?_
  refine lv_iconst (v := 0) hx hb dX3_init_29 (by decide) ?_
  have hz0 := hz
  refine r_putiz hz (C := RX3) (T := TX3) (N := 8) hx hb hts hown i_X3 tyX3 tyX3_ok nmX3 hw (hs_27) rfl rfl 3 (by decide) (hts _ k_86) rfl rfl rfl rfl (Nat.le_of_ble_eq_true rfl) rfl dX3_init_30 (fun I_28 H locs eI_28 hw hz => ?_)
  replace hp := hp I_28 eI_28
  refine lv_aload_n hx hb dX3_init_33 rfl (lv_at hl 0 rfl) ?_
  refine lv_iconst (v := 0) hx hb dX3_init_34 (by decide) ?_
  have hz0 := hz
  refine r_putiz hz (C := RX3) (T := TX3) (N := 8) hx hb hts hown i_X3 tyX3 tyX3_ok nmX3 hw (hs_27) rfl rfl 4 (by decide) (hts _ k_88) rfl rfl (nar_z (Or.inl rfl)) (fits_z (Or.inl rfl)) (Nat.le_of_ble_eq_true rfl) rfl dX3_init_35 (fun I_29 H locs eI_29 hw hz => ?_)
  replace hp := hp I_29 eI_29
  refine lv_aload_n hx hb dX3_init_38 rfl (lv_at hl 0 rfl) ?_
  refine lv_iconst (v := 0) hx hb dX3_init_39 (by decide) ?_
  have hz0 := hz
  refine r_putiz hz (C := RX3) (T := TX3) (N := 8) hx hb hts hown i_X3 tyX3 tyX3_ok nmX3 hw (hs_27) rfl rfl 5 (by decide) (hts _ k_90) rfl rfl rfl rfl (Nat.le_of_ble_eq_true rfl) rfl dX3_init_40 (fun I_30 H locs eI_30 hw hz => ?_)
  replace hp := hp I_30 eI_30
  refine lv_aload_n hx hb dX3_init_43 rfl (lv_at hl 0 rfl) ?_
  refine lv_iconst (v := (-1)) hx hb dX3_init_44 (by decide) ?_
  have hz0 := hz
  refine r_putiz hz (C := RX3) (T := TX3) (N := 8) hx hb hts hown i_X3 tyX3 tyX3_ok nmX3 hw (hs_27) rfl rfl 6 (by decide) (hts _ k_93) rfl rfl rfl rfl (Nat.le_of_ble_eq_true rfl) rfl dX3_init_45 (fun I_31 H locs eI_31 hw hz => ?_)
  replace hp := hp I_31 eI_31
  refine lv_aload_n hx hb dX3_init_48 rfl (lv_at hl 0 rfl) ?_
  refine lv_iconst (v := 0) hx hb dX3_init_49 (by decide) ?_
  have hz0 := hz
  refine r_putiz hz (C := RX3) (T := TX3) (N := 8) hx hb hts hown i_X3 tyX3 tyX3_ok nmX3 hw (hs_27) rfl rfl 7 (by decide) (hts _ k_95) rfl rfl (nar_z (Or.inl rfl)) (fits_z (Or.inl rfl)) (Nat.le_of_ble_eq_true rfl) rfl dX3_init_50 (fun I_32 H locs eI_32 hw hz => ?_)
  replace hp := hp I_32 eI_32
  exact r_vretN hx hb hr hlocks hw hz hp dX3_init_53
set_option maxHeartbeats 4000000 in
set_option maxRecDepth 100000 in
theorem c_X4_init (l : Launch) (G : GX) {z : Nat} {Sh : SH} {a0 : Nat} (h0 : Sh a0 = some (sRowK 0 a0)) {I : MI} {L : ML} {K : Nat → SH → MI → ML → Prop} (hp : wp_X4_init G z Sh a0 I L K) : CtN l yX4_init (wM yX4_init cX4_init 1 none) (rmB 1 3 72 14) G z Sh [.ref a0] I L K 3 72 := by
  refine ofN (own := RX4) (by decide) rfl (Nat.le_of_ble_eq_true rfl) ?_
  intro p e s m args below meth c ls C hin hw hz hl
  obtain ⟨hx, hb, hr, hml, hown, hts, hlocks⟩ := id C
  replace hl : lv_has ls 1 [(0, .ref a0)] := hl
  unfold wp_X4_init at hp
  refine lv_aload_n hx hb dX4_init_0 rfl (lv_at hl 0 rfl) ?_
  refine W.objInit hx hb hown (hts _ k_212) (hts _ k_57) (hts _ k_58) rfl (by rw [hml]; exact hl.1) rfl dX4_init_1 (Nat.le_of_ble_eq_true rfl) (Nat.le_of_ble_eq_true rfl) ?_
  refine W.eq (g2 := F0 m 4 ls []) rfl ?_
  refine lv_aload_n hx hb dX4_init_4 rfl (lv_at hl 0 rfl) ?_
  refine lv_bipush (v := 24) hx hb dX4_init_5 (by decide) ?_
  obtain ⟨hk_4, hp⟩ := hp
  refine r_newI (N' := 24) hx hb (hts _ k_114) hw hz (by decide) (by decide) (Nat.le_of_ble_eq_true rfl) hk_4.1 hk_4.2 dX4_init_7 (fun S_1 I_2 L_3 H eS_1 eI_2 eL_3 hw1 hz1 => ?_)
  replace hp := hp S_1 eS_1 I_2 eI_2 L_3 eL_3
  have hs_6 := sh_new hw hz (h0) eS_1
  have hs_5 : S_1 z = some (sI G 24) := by rw [eS_1]; exact shu_at _ _ _
  have hw := hw1
  have hz := hz1
  obtain ⟨hv_8, hp⟩ := hp
  refine r_putF (C := RX4) (T := TX4) (N := 5) hx hb hts hown i_X4 tyX4 tyX4_ok nmX4 hw (hs_6) rfl rfl 0 (by decide) (hts _ k_213) rfl rfl hin rfl rfl (Nat.le_of_ble_eq_true rfl) (sRowK 1 a0) (by rw [hv_8]; rfl) dX4_init_9 (fun S_7 H locs eS_7 hw hz1 => ?_)
  replace hp := hp S_7 eS_7
  replace hz := hz1.trans hz
  have hs_9 : S_7 a0 = some (sRowK 1 a0) := by rw [eS_7]; exact shu_at _ _ _
  refine lv_aload_n hx hb dX4_init_12 rfl (lv_at hl 0 rfl) ?_
  refine lv_bipush (v := 24) hx hb dX4_init_13 (by decide) ?_
  obtain ⟨hk_13, hp⟩ := hp
  refine r_newI (N' := 24) hx hb (hts _ k_114) hw hz (by decide) (by decide) (Nat.le_of_ble_eq_true rfl) hk_13.1 hk_13.2 dX4_init_15 (fun S_10 I_11 L_12 H eS_10 eI_11 eL_12 hw1 hz1 => ?_)
  replace hp := hp S_10 eS_10 I_11 eI_11 L_12 eL_12
  have hs_15 := sh_new hw hz (hs_9) eS_10
  have hs_14 : S_10 (z + 1) = some (sI G 24) := by rw [eS_10]; exact shu_at _ _ _
  have hw := hw1
  have hz := hz1
  obtain ⟨hv_17, hp⟩ := hp
  refine r_putF (C := RX4) (T := TX4) (N := 5) hx hb hts hown i_X4 tyX4 tyX4_ok nmX4 hw (hs_15) rfl rfl 1 (by decide) (hts _ k_216) rfl rfl hin rfl rfl (Nat.le_of_ble_eq_true rfl) (sRowK 2 a0) (by rw [hv_17]; rfl) dX4_init_17 (fun S_16 H locs eS_16 hw hz1 => ?_)
  replace hp := hp S_16 eS_16
  replace hz := hz1.trans hz
  have hs_18 : S_16 a0 = some (sRowK 2 a0) := by rw [eS_16]; exact shu_at _ _ _
  refine lv_aload_n hx hb dX4_init_20 rfl (lv_at hl 0 rfl) ?_
  refine lv_bipush (v := 24) hx hb dX4_init_21 (by decide) ?_
  obtain ⟨hk_22, hp⟩ := hp
  refine r_newI (N' := 24) hx hb (hts _ k_114) hw hz (by decide) (by decide) (Nat.le_of_ble_eq_true rfl) hk_22.1 hk_22.2 dX4_init_23 (fun S_19 I_20 L_21 H eS_19 eI_20 eL_21 hw1 hz1 => ?_)
  replace hp := hp S_19 eS_19 I_20 eI_20 L_21 eL_21
  have hs_24 := sh_new hw hz (hs_18) eS_19
  have hs_23 : S_19 (z + 2) = some (sI G 24) := by rw [eS_19]; exact shu_at _ _ _
  have hw := hw1
  have hz := hz1
  obtain ⟨hv_26, hp⟩ := hp
  refine r_putF (C := RX4) (T := TX4) (N := 5) hx hb hts hown i_X4 tyX4 tyX4_ok nmX4 hw (hs_24) rfl rfl 2 (by decide) (hts _ k_219) rfl rfl hin rfl rfl (Nat.le_of_ble_eq_true rfl) (sRowK 3 a0) (by rw [hv_26]; rfl) dX4_init_25 (fun S_25 H locs eS_25 hw hz1 => ?_)
  replace hp := hp S_25 eS_25
  replace hz := hz1.trans hz
  have hs_27 : S_25 a0 = some (sRowK 3 a0) := by rw [eS_25]; exact shu_at _ _ _
  refine lv_aload_n hx hb dX4_init_28 rfl (lv_at hl 0 rfl) ?_
  refine lv_iconst (v := 0) hx hb dX4_init_29 (by decide) ?_
  have hz0 := hz
  refine r_putiz hz (C := RX4) (T := TX4) (N := 5) hx hb hts hown i_X4 tyX4 tyX4_ok nmX4 hw (hs_27) rfl rfl 3 (by decide) (hts _ k_222) rfl rfl rfl rfl (Nat.le_of_ble_eq_true rfl) rfl dX4_init_30 (fun I_28 H locs eI_28 hw hz => ?_)
  replace hp := hp I_28 eI_28
  refine lv_aload_n hx hb dX4_init_33 rfl (lv_at hl 0 rfl) ?_
  refine lv_iconst (v := 0) hx hb dX4_init_34 (by decide) ?_
  have hz0 := hz
  refine r_putiz hz (C := RX4) (T := TX4) (N := 5) hx hb hts hown i_X4 tyX4 tyX4_ok nmX4 hw (hs_27) rfl rfl 4 (by decide) (hts _ k_225) rfl rfl rfl rfl (Nat.le_of_ble_eq_true rfl) rfl dX4_init_35 (fun I_29 H locs eI_29 hw hz => ?_)
  replace hp := hp I_29 eI_29
  exact r_vretN hx hb hr hlocks hw hz hp dX4_init_38
set_option maxHeartbeats 4000000 in
set_option maxRecDepth 100000 in
theorem c_X1_init (l : Launch) (G : GX) {z : Nat} {Sh : SH} {a0 : Nat} (h0 : Sh a0 = some (sLastK 0 a0)) {I : MI} {L : ML} {K : Nat → SH → MI → ML → Prop} (hp : wp_X1_init G z Sh a0 I L K) : CtN l yX1_init (wM yX1_init cX1_init 1 none) (rmB 2 32 388 34) G z Sh [.ref a0] I L K 32 388 := by
  refine ofN (own := RX1) (by decide) rfl (Nat.le_of_ble_eq_true rfl) ?_
  intro p e s m args below meth c ls C hin hw hz hl
  obtain ⟨hx, hb, hr, hml, hown, hts, hlocks⟩ := id C
  replace hl : lv_has ls 1 [(0, .ref a0)] := hl
  unfold wp_X1_init at hp
  refine lv_aload_n hx hb dX1_init_0 rfl (lv_at hl 0 rfl) ?_
  refine W.objInit hx hb hown (hts _ k_124) (hts _ k_57) (hts _ k_58) rfl (by rw [hml]; exact hl.1) rfl dX1_init_1 (Nat.le_of_ble_eq_true rfl) (Nat.le_of_ble_eq_true rfl) ?_
  refine W.eq (g2 := F0 m 4 ls []) rfl ?_
  refine lv_aload_n hx hb dX1_init_4 rfl (lv_at hl 0 rfl) ?_
  refine lv_bipush (v := 24) hx hb dX1_init_5 (by decide) ?_
  obtain ⟨hk_4, hp⟩ := hp
  refine r_newI (N' := 24) hx hb (hts _ k_114) hw hz (by decide) (by decide) (Nat.le_of_ble_eq_true rfl) hk_4.1 hk_4.2 dX1_init_7 (fun S_1 I_2 L_3 H eS_1 eI_2 eL_3 hw1 hz1 => ?_)
  replace hp := hp S_1 eS_1 I_2 eI_2 L_3 eL_3
  have hs_6 := sh_new hw hz (h0) eS_1
  have hs_5 : S_1 z = some (sI G 24) := by rw [eS_1]; exact shu_at _ _ _
  have hw := hw1
  have hz := hz1
  obtain ⟨hv_8, hp⟩ := hp
  refine r_putF (C := RX1) (T := TX1) (N := 13) hx hb hts hown i_X1 tyX1 tyX1_ok nmX1 hw (hs_6) rfl rfl 0 (by decide) (hts _ k_139) rfl rfl hin rfl rfl (Nat.le_of_ble_eq_true rfl) (sLastK 1 a0) (by rw [hv_8]; rfl) dX1_init_9 (fun S_7 H locs eS_7 hw hz1 => ?_)
  replace hp := hp S_7 eS_7
  replace hz := hz1.trans hz
  have hs_9 : S_7 a0 = some (sLastK 1 a0) := by rw [eS_7]; exact shu_at _ _ _
  refine lv_aload_n hx hb dX1_init_12 rfl (lv_at hl 0 rfl) ?_
  refine lv_bipush (v := 24) hx hb dX1_init_13 (by decide) ?_
  obtain ⟨hk_13, hp⟩ := hp
  refine r_newZ (N' := 24) hx hb (hts _ k_137) hw hz (by decide) (by decide) (Nat.le_of_ble_eq_true rfl) hk_13.1 hk_13.2 dX1_init_15 (fun S_10 I_11 L_12 H eS_10 eI_11 eL_12 hw1 hz1 => ?_)
  replace hp := hp S_10 eS_10 I_11 eI_11 L_12 eL_12
  have hs_15 := sh_new hw hz (hs_9) eS_10
  have hs_14 : S_10 (z + 1) = some (sZ G 24) := by rw [eS_10]; exact shu_at _ _ _
  have hw := hw1
  have hz := hz1
  obtain ⟨hv_17, hp⟩ := hp
  refine r_putF (C := RX1) (T := TX1) (N := 13) hx hb hts hown i_X1 tyX1 tyX1_ok nmX1 hw (hs_15) rfl rfl 1 (by decide) (hts _ k_141) rfl rfl hin rfl rfl (Nat.le_of_ble_eq_true rfl) (sLastK 2 a0) (by rw [hv_17]; rfl) dX1_init_17 (fun S_16 H locs eS_16 hw hz1 => ?_)
  replace hp := hp S_16 eS_16
  replace hz := hz1.trans hz
  have hs_18 : S_16 a0 = some (sLastK 2 a0) := by rw [eS_16]; exact shu_at _ _ _
  refine lv_aload_n hx hb dX1_init_20 rfl (lv_at hl 0 rfl) ?_
  refine lv_bipush (v := 24) hx hb dX1_init_21 (by decide) ?_
  obtain ⟨hk_22, hp⟩ := hp
  refine r_newJ (N' := 24) hx hb (hts _ k_138) hw hz (by decide) (by decide) (Nat.le_of_ble_eq_true rfl) hk_22.1 hk_22.2 dX1_init_23 (fun S_19 I_20 L_21 H eS_19 eI_20 eL_21 hw1 hz1 => ?_)
  replace hp := hp S_19 eS_19 I_20 eI_20 L_21 eL_21
  have hs_24 := sh_new hw hz (hs_18) eS_19
  have hs_23 : S_19 (z + 2) = some (sJ G 24) := by rw [eS_19]; exact shu_at _ _ _
  have hw := hw1
  have hz := hz1
  obtain ⟨hv_26, hp⟩ := hp
  refine r_putF (C := RX1) (T := TX1) (N := 13) hx hb hts hown i_X1 tyX1 tyX1_ok nmX1 hw (hs_24) rfl rfl 2 (by decide) (hts _ k_143) rfl rfl hin rfl rfl (Nat.le_of_ble_eq_true rfl) (sLastK 3 a0) (by rw [hv_26]; rfl) dX1_init_25 (fun S_25 H locs eS_25 hw hz1 => ?_)
  replace hp := hp S_25 eS_25
  replace hz := hz1.trans hz
  have hs_27 : S_25 a0 = some (sLastK 3 a0) := by rw [eS_25]; exact shu_at _ _ _
  refine lv_aload_n hx hb dX1_init_28 rfl (lv_at hl 0 rfl) ?_
  refine lv_bipush (v := 25) hx hb dX1_init_29 (by decide) ?_
  obtain ⟨hk_31, hp⟩ := hp
  refine r_newI (N' := 25) hx hb (hts _ k_114) hw hz (by decide) (by decide) (Nat.le_of_ble_eq_true rfl) hk_31.1 hk_31.2 dX1_init_31 (fun S_28 I_29 L_30 H eS_28 eI_29 eL_30 hw1 hz1 => ?_)
  replace hp := hp S_28 eS_28 I_29 eI_29 L_30 eL_30
  have hs_33 := sh_new hw hz (hs_27) eS_28
  have hs_32 : S_28 (z + 3) = some (sI G 25) := by rw [eS_28]; exact shu_at _ _ _
  have hw := hw1
  have hz := hz1
  obtain ⟨hv_35, hp⟩ := hp
  refine r_putF (C := RX1) (T := TX1) (N := 13) hx hb hts hown i_X1 tyX1 tyX1_ok nmX1 hw (hs_33) rfl rfl 3 (by decide) (hts _ k_145) rfl rfl hin rfl rfl (Nat.le_of_ble_eq_true rfl) (sLastK 4 a0) (by rw [hv_35]; rfl) dX1_init_33 (fun S_34 H locs eS_34 hw hz1 => ?_)
  replace hp := hp S_34 eS_34
  replace hz := hz1.trans hz
  have hs_36 : S_34 a0 = some (sLastK 4 a0) := by rw [eS_34]; exact shu_at _ _ _
  refine lv_aload_n hx hb dX1_init_36 rfl (lv_at hl 0 rfl) ?_
  refine lv_bipush (v := 25) hx hb dX1_init_37 (by decide) ?_
  obtain ⟨hk_40, hp⟩ := hp
  refine r_newI (N' := 25) hx hb (hts _ k_114) hw hz (by decide) (by decide) (Nat.le_of_ble_eq_true rfl) hk_40.1 hk_40.2 dX1_init_39 (fun S_37 I_38 L_39 H eS_37 eI_38 eL_39 hw1 hz1 => ?_)
  replace hp := hp S_37 eS_37 I_38 eI_38 L_39 eL_39
  have hs_42 := sh_new hw hz (hs_36) eS_37
  have hs_41 : S_37 (z + 4) = some (sI G 25) := by rw [eS_37]; exact shu_at _ _ _
  have hw := hw1
  have hz := hz1
  obtain ⟨hv_44, hp⟩ := hp
  refine r_putF (C := RX1) (T := TX1) (N := 13) hx hb hts hown i_X1 tyX1 tyX1_ok nmX1 hw (hs_42) rfl rfl 4 (by decide) (hts _ k_146) rfl rfl hin rfl rfl (Nat.le_of_ble_eq_true rfl) (sLastK 5 a0) (by rw [hv_44]; rfl) dX1_init_41 (fun S_43 H locs eS_43 hw hz1 => ?_)
  replace hp := hp S_43 eS_43
  replace hz := hz1.trans hz
  have hs_45 : S_43 a0 = some (sLastK 5 a0) := by rw [eS_43]; exact shu_at _ _ _
  refine lv_aload_n hx hb dX1_init_44 rfl (lv_at hl 0 rfl) ?_
  refine lv_bipush (v := 25) hx hb dX1_init_45 (by decide) ?_
  obtain ⟨hk_49, hp⟩ := hp
  refine r_newI (N' := 25) hx hb (hts _ k_114) hw hz (by decide) (by decide) (Nat.le_of_ble_eq_true rfl) hk_49.1 hk_49.2 dX1_init_47 (fun S_46 I_47 L_48 H eS_46 eI_47 eL_48 hw1 hz1 => ?_)
  replace hp := hp S_46 eS_46 I_47 eI_47 L_48 eL_48
  have hs_51 := sh_new hw hz (hs_45) eS_46
  have hs_50 : S_46 (z + 5) = some (sI G 25) := by rw [eS_46]; exact shu_at _ _ _
  have hw := hw1
  have hz := hz1
  obtain ⟨hv_53, hp⟩ := hp
  refine r_putF (C := RX1) (T := TX1) (N := 13) hx hb hts hown i_X1 tyX1 tyX1_ok nmX1 hw (hs_51) rfl rfl 5 (by decide) (hts _ k_147) rfl rfl hin rfl rfl (Nat.le_of_ble_eq_true rfl) (sLastK 6 a0) (by rw [hv_53]; rfl) dX1_init_49 (fun S_52 H locs eS_52 hw hz1 => ?_)
  replace hp := hp S_52 eS_52
  replace hz := hz1.trans hz
  have hs_54 : S_52 a0 = some (sLastK 6 a0) := by rw [eS_52]; exact shu_at _ _ _
  refine lv_aload_n hx hb dX1_init_52 rfl (lv_at hl 0 rfl) ?_
  obtain ⟨hk_58, hp⟩ := hp
  refine r_new (C := RX2) (T := TX2) (N := 1) hx hb hts hown i_X2 tyX2 tyX2_ok (hts _ k_125) (hts _ k_126) (hts _ k_40) hw hz rfl (sNeedsK 0 (z + 6)) rfl (fun j hj => by rcases (show j = 0 by omega) with rfl <;> rfl) hk_58.1 hk_58.2 dX1_init_53 (fun S_55 I_56 L_57 H eS_55 eI_56 eL_57 hw1 hz1 => ?_)
  replace hp := hp S_55 eS_55 I_56 eI_56 L_57 eL_57
  have hs_60 := sh_new hw hz (hs_54) eS_55
  have hs_59 : S_55 (z + 6) = some (sNeedsK 0 (z + 6)) := by rw [eS_55]; exact shu_at _ _ _
  have hw := hw1
  have hz := hz1
  refine lv_dup hx hb dX1_init_56 rfl ?_
  obtain ⟨hk_65, hp⟩ := hp
  refine r_cnN (As := []) ⟨hx, hb, hml, hown, hts⟩ (c_X2_init l G (hs_59) hp) (cw_X1_34 hts hw ⟨Nat.le_of_ble_eq_true rfl, Nat.le_of_ble_eq_true rfl⟩) hw hz rfl rfl hl.1 (Nat.le_of_ble_eq_true rfl) hk_65 dX1_init_57 (fun z_61 S_62 I_63 L_64 H locs hp hw hz => ?_)
  obtain ⟨hs_66, hs_67, hp⟩ := hp
  obtain ⟨hv_69, hp⟩ := hp
  refine r_putF (C := RX1) (T := TX1) (N := 13) hx hb hts hown i_X1 tyX1 tyX1_ok nmX1 hw (hs_66) rfl rfl 6 (by decide) (hts _ k_148) rfl rfl hin rfl rfl (Nat.le_of_ble_eq_true rfl) (sLastK 7 a0) (by rw [hv_69]; rfl) dX1_init_60 (fun S_68 H locs eS_68 hw hz1 => ?_)
  replace hp := hp S_68 eS_68
  replace hz := hz1.trans hz
  have hs_70 : S_68 a0 = some (sLastK 7 a0) := by rw [eS_68]; exact shu_at _ _ _
  refine lv_aload_n hx hb dX1_init_63 rfl (lv_at hl 0 rfl) ?_
  refine lv_iconst (v := 0) hx hb dX1_init_64 (by decide) ?_
  have hz0 := hz
  refine r_putiz hz (C := RX1) (T := TX1) (N := 13) hx hb hts hown i_X1 tyX1 tyX1_ok nmX1 hw (hs_70) rfl rfl 7 (by decide) (hts _ k_149) rfl rfl rfl rfl (Nat.le_of_ble_eq_true rfl) rfl dX1_init_65 (fun I_71 H locs eI_71 hw hz => ?_)
  replace hp := hp I_71 eI_71
  refine lv_aload_n hx hb dX1_init_68 rfl (lv_at hl 0 rfl) ?_
  refine lv_iconst (v := 0) hx hb dX1_init_69 (by decide) ?_
  have hz0 := hz
  refine r_putiz hz (C := RX1) (T := TX1) (N := 13) hx hb hts hown i_X1 tyX1 tyX1_ok nmX1 hw (hs_70) rfl rfl 8 (by decide) (hts _ k_150) rfl rfl rfl rfl (Nat.le_of_ble_eq_true rfl) rfl dX1_init_70 (fun I_72 H locs eI_72 hw hz => ?_)
  replace hp := hp I_72 eI_72
  refine lv_aload_n hx hb dX1_init_73 rfl (lv_at hl 0 rfl) ?_
  refine lv_lconst (v := 0) hx hb dX1_init_74 (by decide) ?_
  refine r_putjz hz (C := RX1) (T := TX1) (N := 13) hx hb hts hown i_X1 tyX1 tyX1_ok nmX1 hw (hs_70) rfl rfl 9 (by decide) (hts _ k_151) rfl rfl rfl rfl (Nat.le_of_ble_eq_true rfl) rfl dX1_init_75 (fun L_73 H locs eL_73 hw hz => ?_)
  replace hp := hp L_73 eL_73
  refine lv_aload_n hx hb dX1_init_78 rfl (lv_at hl 0 rfl) ?_
  refine lv_lconst (v := 0) hx hb dX1_init_79 (by decide) ?_
  refine r_putjz hz (C := RX1) (T := TX1) (N := 13) hx hb hts hown i_X1 tyX1 tyX1_ok nmX1 hw (hs_70) rfl rfl 10 (by decide) (hts _ k_152) rfl rfl rfl rfl (Nat.le_of_ble_eq_true rfl) rfl dX1_init_80 (fun L_74 H locs eL_74 hw hz => ?_)
  replace hp := hp L_74 eL_74
  refine lv_aload_n hx hb dX1_init_83 rfl (lv_at hl 0 rfl) ?_
  refine lv_iconst (v := (-1)) hx hb dX1_init_84 (by decide) ?_
  have hz0 := hz
  refine r_putiz hz (C := RX1) (T := TX1) (N := 13) hx hb hts hown i_X1 tyX1 tyX1_ok nmX1 hw (hs_70) rfl rfl 11 (by decide) (hts _ k_153) rfl rfl rfl rfl (Nat.le_of_ble_eq_true rfl) rfl dX1_init_85 (fun I_75 H locs eI_75 hw hz => ?_)
  replace hp := hp I_75 eI_75
  refine lv_aload_n hx hb dX1_init_88 rfl (lv_at hl 0 rfl) ?_
  refine lv_lconst (v := 0) hx hb dX1_init_89 (by decide) ?_
  refine r_putjz hz (C := RX1) (T := TX1) (N := 13) hx hb hts hown i_X1 tyX1 tyX1_ok nmX1 hw (hs_70) rfl rfl 12 (by decide) (hts _ k_154) rfl rfl rfl rfl (Nat.le_of_ble_eq_true rfl) rfl dX1_init_90 (fun L_76 H locs eL_76 hw hz => ?_)
  replace hp := hp L_76 eL_76
  exact r_vretN hx hb hr hlocks hw hz hp dX1_init_93
set_option maxHeartbeats 4000000 in
set_option maxRecDepth 100000 in
theorem w_X5_init_104 {p : Program} {l : Launch} {e : Env} {s : State} {m : MethodId} {args : Array Value} {below : List Frame} {meth : Method} {c : Code} (C : Cx p s m args meth c cX5_init none 2 RX5) (hin : meth.name = "<init>") {G : GX} {a0 : Nat} {K : Nat → SH → MI → ML → Prop} : ∀ (n z k ks : Nat) (x : Int32) (Sh : SH) (I : MI) (L : ML) (H : Heap) (locs : List Loc) (ls : Array Slot) (h0 : Sh a0 = some (sTableK 5 a0)), wp_X5_init_104 G a0 K n z k ks x Sh I L → mW G Sh s I L H locs → H.size = z → lv_has ls 2 [(0, .ref a0), (1, .int x)] → W p l e (rmB 3 133 2151 54) s m args below meth c H locs k ks (eN below G K 133 2151 args s) (F0 m 104 ls []) := by
  obtain ⟨hx, hb, hr, hml, hown, hts, hlocks⟩ := id C
  intro n
  induction n with
  | zero => intro z k ks x Sh I L H locs ls h0 hp; exact hp.elim
  | succ n hB104 =>
    intro z k ks x Sh I L H locs ls h0 hp hw hz hl
    replace hp : wb_X5_init_104 G a0 K (wp_X5_init_104 G a0 K n) z k ks x Sh I L := hp
    unfold wb_X5_init_104 at hp
    refine lv_iload_n hx hb dX5_init_104 rfl (lv_at hl 1 rfl) ?_
    refine lv_aload_n hx hb dX5_init_105 rfl (lv_at hl 0 rfl) ?_
    refine r_get (C := RX5) (T := TX5) (N := 9) hx hb hts hown i_X5 hw (h0) rfl rfl 2 (by decide) (hts _ k_244) rfl rfl dX5_init_106 ?_
    obtain ⟨F_88, hs_89, hp⟩ := hp
    refine W.eq (g2 := F0 m 109 ls [.ref (a0 + 6), .int x]) rfl ?_
    refine r_alenQ (v := (20 : Int32)) hx hb hw (hs_89) rfl rfl dX5_init_109 ?_
    refine lv_icmp_ge (tgt := 132) hx hb dX5_init_110 (by decide) (fun hc_90 => ?_) (fun hc_90 => ?_)
    · replace hp := hp.1 hc_90
      exact r_vretN hx hb hr hlocks hw hz hp dX5_init_132
    · replace hp := hp.2 hc_90
      refine lv_aload_n hx hb dX5_init_113 rfl (lv_at hl 0 rfl) ?_
      refine r_get (C := RX5) (T := TX5) (N := 9) hx hb hts hown i_X5 hw (h0) rfl rfl 2 (by decide) (hts _ k_244) rfl rfl dX5_init_114 ?_
      obtain ⟨F_91, hs_92, hp⟩ := hp
      refine W.eq (g2 := F0 m 117 ls [.ref (a0 + 6)]) rfl ?_
      refine lv_iload_n hx hb dX5_init_117 rfl (lv_at hl 1 rfl) ?_
      obtain ⟨hk_96, hp⟩ := hp
      refine r_new (C := RX4) (T := TX4) (N := 5) hx hb hts hown i_X4 tyX4 tyX4_ok (hts _ k_117) (hts _ k_208) (hts _ k_42) hw hz rfl (sRowK 0 z) rfl (fun j hj => by rcases (show j = 0 ∨ j = 1 ∨ j = 2 ∨ j = 3 ∨ j = 4 by omega) with rfl | rfl | rfl | rfl | rfl <;> rfl) hk_96.1 hk_96.2 dX5_init_118 (fun S_93 I_94 L_95 H eS_93 eI_94 eL_95 hw1 hz1 => ?_)
      replace hp := hp S_93 eS_93 I_94 eI_94 L_95 eL_95
      have hs_98 := sh_new hw hz (h0) eS_93
      have hs_99 := sh_new hw hz (hs_92) eS_93
      have hs_97 : S_93 z = some (sRowK 0 z) := by rw [eS_93]; exact shu_at _ _ _
      have hw := hw1
      have hz := hz1
      refine lv_dup hx hb dX5_init_121 rfl ?_
      obtain ⟨hk_104, hp⟩ := hp
      refine r_cnN (As := []) ⟨hx, hb, hml, hown, hts⟩ (c_X4_init l G (hs_97) hp) (cw_X5_56 hts hw ⟨Nat.le_of_ble_eq_true rfl, Nat.le_of_ble_eq_true rfl⟩) hw hz rfl rfl hl.1 (Nat.le_of_ble_eq_true rfl) hk_104 dX5_init_122 (fun z_100 S_101 I_102 L_103 H locs hp hw hz => ?_)
      obtain ⟨hs_105, hs_106, hs_107, hp⟩ := hp
      obtain ⟨hi_108, hp⟩ := hp
      refine r_aast (ci := 6) hx hb hw (hs_107) rfl (hs_106) rfl rfl hi_108 dX5_init_125 (fun S_109 H locs eS_109 hw hz1 => ?_)
      replace hp := hp S_109 eS_109
      replace hz := hz1.trans hz
      have hs_110 := sh_set (hs_105) (show a0 ≠ (a0 + 6) by omega) eS_109
      obtain ⟨x_111, ex_111⟩ : ∃ z : Int32, z = x + (1 : Int32) := ⟨_, rfl⟩
      replace hp := hp x_111 ex_111
      refine lv_iinc (v := x_111) (lv' := [(1, .int x_111), (0, .ref a0)]) hx hb dX5_init_126 hl (k := 1) rfl (by rw [ex_111]; rfl) (by decide) rfl (fun ls hl => ?_)
      refine lv_goto (tgt := 104) hx hb dX5_init_129 (by decide) ?_
      exact hB104 _ _ _ (x_111) _ _ _ _ _ _ (hs_110) hp hw hz (lv_sub hl [1, 0] rfl)
set_option maxHeartbeats 4000000 in
set_option maxRecDepth 100000 in
theorem w_X5_init_74 {p : Program} {l : Launch} {e : Env} {s : State} {m : MethodId} {args : Array Value} {below : List Frame} {meth : Method} {c : Code} (C : Cx p s m args meth c cX5_init none 2 RX5) (hin : meth.name = "<init>") {G : GX} {a0 : Nat} {K : Nat → SH → MI → ML → Prop} : ∀ (n z k ks : Nat) (x : Int32) (Sh : SH) (I : MI) (L : ML) (H : Heap) (locs : List Loc) (ls : Array Slot) (h0 : Sh a0 = some (sTableK 5 a0)), wp_X5_init_74 G a0 K n z k ks x Sh I L → mW G Sh s I L H locs → H.size = z → lv_has ls 2 [(0, .ref a0), (1, .int x)] → W p l e (rmB 3 133 2151 54) s m args below meth c H locs k ks (eN below G K 133 2151 args s) (F0 m 74 ls []) := by
  obtain ⟨hx, hb, hr, hml, hown, hts, hlocks⟩ := id C
  intro n
  induction n with
  | zero => intro z k ks x Sh I L H locs ls h0 hp; exact hp.elim
  | succ n hB74 =>
    intro z k ks x Sh I L H locs ls h0 hp hw hz hl
    replace hp : wb_X5_init_74 G a0 K (wp_X5_init_74 G a0 K n) z k ks x Sh I L := hp
    unfold wb_X5_init_74 at hp
    refine lv_iload_n hx hb dX5_init_74 rfl (lv_at hl 1 rfl) ?_
    refine lv_aload_n hx hb dX5_init_75 rfl (lv_at hl 0 rfl) ?_
    refine r_get (C := RX5) (T := TX5) (N := 9) hx hb hts hown i_X5 hw (h0) rfl rfl 1 (by decide) (hts _ k_242) rfl rfl dX5_init_76 ?_
    obtain ⟨F_64, hs_65, hp⟩ := hp
    refine W.eq (g2 := F0 m 79 ls [.ref (a0 + 5), .int x]) rfl ?_
    refine r_alenQ (v := (13 : Int32)) hx hb hw (hs_65) rfl rfl dX5_init_79 ?_
    refine lv_icmp_ge (tgt := 102) hx hb dX5_init_80 (by decide) (fun hc_66 => ?_) (fun hc_66 => ?_)
    · replace hp := hp.1 hc_66
      refine lv_iconst (v := 0) hx hb dX5_init_102 (by decide) ?_
      refine lv_istore_n (lv' := [(1, .int (0 : Int32)), (0, .ref a0)]) hx hb dX5_init_103 rfl hl (by decide) rfl (fun ls hl => ?_)
      obtain ⟨n, hp⟩ := hp
      exact w_X5_init_104 C hin n _ _ _ ((0 : Int32)) _ _ _ _ _ _ (h0) hp hw hz (lv_sub hl [1, 0] rfl)
    · replace hp := hp.2 hc_66
      refine lv_aload_n hx hb dX5_init_83 rfl (lv_at hl 0 rfl) ?_
      refine r_get (C := RX5) (T := TX5) (N := 9) hx hb hts hown i_X5 hw (h0) rfl rfl 1 (by decide) (hts _ k_242) rfl rfl dX5_init_84 ?_
      obtain ⟨F_67, hs_68, hp⟩ := hp
      refine W.eq (g2 := F0 m 87 ls [.ref (a0 + 5)]) rfl ?_
      refine lv_iload_n hx hb dX5_init_87 rfl (lv_at hl 1 rfl) ?_
      obtain ⟨hk_72, hp⟩ := hp
      refine r_new (C := RX0) (T := TX0) (N := 5) hx hb hts hown i_X0 tyX0 tyX0_ok (hts _ k_115) (hts _ k_182) (hts _ k_41) hw hz rfl sGlue rfl (fun j hj => by rcases (show j = 0 ∨ j = 1 ∨ j = 2 ∨ j = 3 ∨ j = 4 by omega) with rfl | rfl | rfl | rfl | rfl <;> rfl) hk_72.1 hk_72.2 dX5_init_88 (fun S_69 I_70 L_71 H eS_69 eI_70 eL_71 hw1 hz1 => ?_)
      replace hp := hp S_69 eS_69 I_70 eI_70 L_71 eL_71
      have hs_74 := sh_new hw hz (h0) eS_69
      have hs_75 := sh_new hw hz (hs_68) eS_69
      have hs_73 : S_69 z = some sGlue := by rw [eS_69]; exact shu_at _ _ _
      have hw := hw1
      have hz := hz1
      refine lv_dup hx hb dX5_init_91 rfl ?_
      obtain ⟨hk_80, hp⟩ := hp
      refine r_cnN (As := []) ⟨hx, hb, hml, hown, hts⟩ (c_X0_init l G (hs_73) hp) (cw_X5_55 hts hw ⟨Nat.le_of_ble_eq_true rfl, Nat.le_of_ble_eq_true rfl⟩) hw hz rfl rfl hl.1 (Nat.le_of_ble_eq_true rfl) hk_80 dX5_init_92 (fun z_76 S_77 I_78 L_79 H locs hp hw hz => ?_)
      obtain ⟨hs_81, hs_82, hs_83, hp⟩ := hp
      obtain ⟨hi_84, hp⟩ := hp
      refine r_aast (ci := 2) hx hb hw (hs_83) rfl (hs_82) rfl rfl hi_84 dX5_init_95 (fun S_85 H locs eS_85 hw hz1 => ?_)
      replace hp := hp S_85 eS_85
      replace hz := hz1.trans hz
      have hs_86 := sh_set (hs_81) (show a0 ≠ (a0 + 5) by omega) eS_85
      obtain ⟨x_87, ex_87⟩ : ∃ z : Int32, z = x + (1 : Int32) := ⟨_, rfl⟩
      replace hp := hp x_87 ex_87
      refine lv_iinc (v := x_87) (lv' := [(1, .int x_87), (0, .ref a0)]) hx hb dX5_init_96 hl (k := 1) rfl (by rw [ex_87]; rfl) (by decide) rfl (fun ls hl => ?_)
      refine lv_goto (tgt := 74) hx hb dX5_init_99 (by decide) ?_
      exact hB74 _ _ _ (x_87) _ _ _ _ _ _ (hs_86) hp hw hz (lv_sub hl [1, 0] rfl)
set_option maxHeartbeats 4000000 in
set_option maxRecDepth 100000 in
theorem c_X5_init (l : Launch) (G : GX) {z : Nat} {Sh : SH} {a0 : Nat} (h0 : Sh a0 = some (sTableK 0 a0)) {I : MI} {L : ML} {K : Nat → SH → MI → ML → Prop} (hp : wp_X5_init G z Sh a0 I L K) : CtN l yX5_init (wM yX5_init cX5_init 2 none) (rmB 3 133 2151 54) G z Sh [.ref a0] I L K 133 2151 := by
  refine ofN (own := RX5) (by decide) rfl (Nat.le_of_ble_eq_true rfl) ?_
  intro p e s m args below meth c ls C hin hw hz hl
  obtain ⟨hx, hb, hr, hml, hown, hts, hlocks⟩ := id C
  replace hl : lv_has ls 2 [(0, .ref a0)] := hl
  unfold wp_X5_init at hp
  refine lv_aload_n hx hb dX5_init_0 rfl (lv_at hl 0 rfl) ?_
  refine W.objInit hx hb hown (hts _ k_76) (hts _ k_57) (hts _ k_58) rfl (by rw [hml]; exact hl.1) rfl dX5_init_1 (Nat.le_of_ble_eq_true rfl) (Nat.le_of_ble_eq_true rfl) ?_
  refine W.eq (g2 := F0 m 4 ls []) rfl ?_
  refine lv_aload_n hx hb dX5_init_4 rfl (lv_at hl 0 rfl) ?_
  obtain ⟨hk_4, hp⟩ := hp
  refine r_new (C := RX3) (T := TX3) (N := 8) hx hb hts hown i_X3 tyX3 tyX3_ok (hts _ k_77) (hts _ k_78) (hts _ k_38) hw hz rfl (sPreK 0 z) rfl (fun j hj => by rcases (show j = 0 ∨ j = 1 ∨ j = 2 ∨ j = 3 ∨ j = 4 ∨ j = 5 ∨ j = 6 ∨ j = 7 by omega) with rfl | rfl | rfl | rfl | rfl | rfl | rfl | rfl <;> rfl) hk_4.1 hk_4.2 dX5_init_5 (fun S_1 I_2 L_3 H eS_1 eI_2 eL_3 hw1 hz1 => ?_)
  replace hp := hp S_1 eS_1 I_2 eI_2 L_3 eL_3
  have hs_6 := sh_new hw hz (h0) eS_1
  have hs_5 : S_1 z = some (sPreK 0 z) := by rw [eS_1]; exact shu_at _ _ _
  have hw := hw1
  have hz := hz1
  refine lv_dup hx hb dX5_init_8 rfl ?_
  obtain ⟨hk_11, hp⟩ := hp
  refine r_cnN (As := []) ⟨hx, hb, hml, hown, hts⟩ (c_X3_init l G (hs_5) hp) (cw_X5_11 hts hw ⟨Nat.le_of_ble_eq_true rfl, Nat.le_of_ble_eq_true rfl⟩) hw hz rfl rfl hl.1 (Nat.le_of_ble_eq_true rfl) hk_11 dX5_init_9 (fun z_7 S_8 I_9 L_10 H locs hp hw hz => ?_)
  obtain ⟨hs_12, hs_13, hp⟩ := hp
  obtain ⟨hv_15, hp⟩ := hp
  refine r_putF (C := RX5) (T := TX5) (N := 9) hx hb hts hown i_X5 tyX5 tyX5_ok nmX5 hw (hs_12) rfl rfl 0 (by decide) (hts _ k_239) rfl rfl hin rfl rfl (Nat.le_of_ble_eq_true rfl) (sTableK 1 a0) (by rw [hv_15]; rfl) dX5_init_12 (fun S_14 H locs eS_14 hw hz1 => ?_)
  replace hp := hp S_14 eS_14
  replace hz := hz1.trans hz
  have hs_16 : S_14 a0 = some (sTableK 1 a0) := by rw [eS_14]; exact shu_at _ _ _
  refine lv_aload_n hx hb dX5_init_15 rfl (lv_at hl 0 rfl) ?_
  refine lv_bipush (v := 13) hx hb dX5_init_16 (by decide) ?_
  obtain ⟨hk_20, hp⟩ := hp
  refine r_newQ (N' := 13) (k := 4) hx hb hown (hts _ k_115) (hw.2.2.2.2.2 _ o_116) hw rfl hz (by decide) (by decide) (Nat.le_of_ble_eq_true rfl) hk_20.1 hk_20.2 dX5_init_18 (fun S_17 I_18 L_19 H eS_17 eI_18 eL_19 hw1 hz1 => ?_)
  replace hp := hp S_17 eS_17 I_18 eI_18 L_19 eL_19
  have hs_22 := sh_new hw hz (hs_16) eS_17
  have hs_21 : S_17 z_7 = some (sQ G 4 13 (fun _ => none)) := by rw [eS_17]; exact shu_at _ _ _
  have hw := hw1
  have hz := hz1
  obtain ⟨hv_24, hp⟩ := hp
  refine r_putF (C := RX5) (T := TX5) (N := 9) hx hb hts hown i_X5 tyX5 tyX5_ok nmX5 hw (hs_22) rfl rfl 1 (by decide) (hts _ k_242) rfl rfl hin rfl rfl (Nat.le_of_ble_eq_true rfl) (sTableK 2 a0) (by rw [hv_24]; rfl) dX5_init_21 (fun S_23 H locs eS_23 hw hz1 => ?_)
  replace hp := hp S_23 eS_23
  replace hz := hz1.trans hz
  have hs_25 : S_23 a0 = some (sTableK 2 a0) := by rw [eS_23]; exact shu_at _ _ _
  refine lv_aload_n hx hb dX5_init_24 rfl (lv_at hl 0 rfl) ?_
  refine lv_bipush (v := 20) hx hb dX5_init_25 (by decide) ?_
  obtain ⟨hk_29, hp⟩ := hp
  refine r_newQ (N' := 20) (k := 5) hx hb hown (hts _ k_117) (hw.2.2.2.2.2 _ o_118) hw rfl hz (by decide) (by decide) (Nat.le_of_ble_eq_true rfl) hk_29.1 hk_29.2 dX5_init_27 (fun S_26 I_27 L_28 H eS_26 eI_27 eL_28 hw1 hz1 => ?_)
  replace hp := hp S_26 eS_26 I_27 eI_27 L_28 eL_28
  have hs_31 := sh_new hw hz (hs_25) eS_26
  have hs_30 : S_26 (z_7 + 1) = some (sQ G 5 20 (fun _ => none)) := by rw [eS_26]; exact shu_at _ _ _
  have hw := hw1
  have hz := hz1
  obtain ⟨hv_33, hp⟩ := hp
  refine r_putF (C := RX5) (T := TX5) (N := 9) hx hb hts hown i_X5 tyX5 tyX5_ok nmX5 hw (hs_31) rfl rfl 2 (by decide) (hts _ k_244) rfl rfl hin rfl rfl (Nat.le_of_ble_eq_true rfl) (sTableK 3 a0) (by rw [hv_33]; rfl) dX5_init_30 (fun S_32 H locs eS_32 hw hz1 => ?_)
  replace hp := hp S_32 eS_32
  replace hz := hz1.trans hz
  have hs_34 : S_32 a0 = some (sTableK 3 a0) := by rw [eS_32]; exact shu_at _ _ _
  refine lv_aload_n hx hb dX5_init_33 rfl (lv_at hl 0 rfl) ?_
  refine lv_bipush (v := 40) hx hb dX5_init_34 (by decide) ?_
  obtain ⟨hk_38, hp⟩ := hp
  refine r_newI (N' := 40) hx hb (hts _ k_114) hw hz (by decide) (by decide) (Nat.le_of_ble_eq_true rfl) hk_38.1 hk_38.2 dX5_init_36 (fun S_35 I_36 L_37 H eS_35 eI_36 eL_37 hw1 hz1 => ?_)
  replace hp := hp S_35 eS_35 I_36 eI_36 L_37 eL_37
  have hs_40 := sh_new hw hz (hs_34) eS_35
  have hs_39 : S_35 (z_7 + 2) = some (sI G 40) := by rw [eS_35]; exact shu_at _ _ _
  have hw := hw1
  have hz := hz1
  obtain ⟨hv_42, hp⟩ := hp
  refine r_putF (C := RX5) (T := TX5) (N := 9) hx hb hts hown i_X5 tyX5 tyX5_ok nmX5 hw (hs_40) rfl rfl 3 (by decide) (hts _ k_247) rfl rfl hin rfl rfl (Nat.le_of_ble_eq_true rfl) (sTableK 4 a0) (by rw [hv_42]; rfl) dX5_init_38 (fun S_41 H locs eS_41 hw hz1 => ?_)
  replace hp := hp S_41 eS_41
  replace hz := hz1.trans hz
  have hs_43 : S_41 a0 = some (sTableK 4 a0) := by rw [eS_41]; exact shu_at _ _ _
  refine lv_aload_n hx hb dX5_init_41 rfl (lv_at hl 0 rfl) ?_
  obtain ⟨hk_47, hp⟩ := hp
  refine r_new (C := RX1) (T := TX1) (N := 13) hx hb hts hown i_X1 tyX1 tyX1_ok (hts _ k_119) (hts _ k_120) (hts _ k_39) hw hz rfl (sLastK 0 (z_7 + 3)) rfl (fun j hj => by rcases (show j = 0 ∨ j = 1 ∨ j = 2 ∨ j = 3 ∨ j = 4 ∨ j = 5 ∨ j = 6 ∨ j = 7 ∨ j = 8 ∨ j = 9 ∨ j = 10 ∨ j = 11 ∨ j = 12 by omega) with rfl | rfl | rfl | rfl | rfl | rfl | rfl | rfl | rfl | rfl | rfl | rfl | rfl <;> rfl) hk_47.1 hk_47.2 dX5_init_42 (fun S_44 I_45 L_46 H eS_44 eI_45 eL_46 hw1 hz1 => ?_)
  replace hp := hp S_44 eS_44 I_45 eI_45 L_46 eL_46
  have hs_49 := sh_new hw hz (hs_43) eS_44
  have hs_48 : S_44 (z_7 + 3) = some (sLastK 0 (z_7 + 3)) := by rw [eS_44]; exact shu_at _ _ _
  have hw := hw1
  have hz := hz1
  refine lv_dup hx hb dX5_init_45 rfl ?_
  obtain ⟨hk_54, hp⟩ := hp
  refine r_cnN (As := []) ⟨hx, hb, hml, hown, hts⟩ (c_X1_init l G (hs_48) hp) (cw_X5_36 hts hw ⟨Nat.le_of_ble_eq_true rfl, Nat.le_of_ble_eq_true rfl⟩) hw hz rfl rfl hl.1 (Nat.le_of_ble_eq_true rfl) hk_54 dX5_init_46 (fun z_50 S_51 I_52 L_53 H locs hp hw hz => ?_)
  obtain ⟨hs_55, hs_56, hp⟩ := hp
  obtain ⟨hv_58, hp⟩ := hp
  refine r_putF (C := RX5) (T := TX5) (N := 9) hx hb hts hown i_X5 tyX5 tyX5_ok nmX5 hw (hs_55) rfl rfl 4 (by decide) (hts _ k_249) rfl rfl hin rfl rfl (Nat.le_of_ble_eq_true rfl) (sTableK 5 a0) (by rw [hv_58]; rfl) dX5_init_49 (fun S_57 H locs eS_57 hw hz1 => ?_)
  replace hp := hp S_57 eS_57
  replace hz := hz1.trans hz
  have hs_59 : S_57 a0 = some (sTableK 5 a0) := by rw [eS_57]; exact shu_at _ _ _
  refine lv_aload_n hx hb dX5_init_52 rfl (lv_at hl 0 rfl) ?_
  refine lv_iconst (v := 0) hx hb dX5_init_53 (by decide) ?_
  have hz0 := hz
  refine r_putiz hz (C := RX5) (T := TX5) (N := 9) hx hb hts hown i_X5 tyX5 tyX5_ok nmX5 hw (hs_59) rfl rfl 5 (by decide) (hts _ k_251) rfl rfl rfl rfl (Nat.le_of_ble_eq_true rfl) rfl dX5_init_54 (fun I_60 H locs eI_60 hw hz => ?_)
  replace hp := hp I_60 eI_60
  refine lv_aload_n hx hb dX5_init_57 rfl (lv_at hl 0 rfl) ?_
  refine lv_iconst (v := 0) hx hb dX5_init_58 (by decide) ?_
  have hz0 := hz
  refine r_putiz hz (C := RX5) (T := TX5) (N := 9) hx hb hts hown i_X5 tyX5 tyX5_ok nmX5 hw (hs_59) rfl rfl 6 (by decide) (hts _ k_253) rfl rfl rfl rfl (Nat.le_of_ble_eq_true rfl) rfl dX5_init_59 (fun I_61 H locs eI_61 hw hz => ?_)
  replace hp := hp I_61 eI_61
  refine lv_aload_n hx hb dX5_init_62 rfl (lv_at hl 0 rfl) ?_
  refine lv_iconst (v := 0) hx hb dX5_init_63 (by decide) ?_
  have hz0 := hz
  refine r_putiz hz (C := RX5) (T := TX5) (N := 9) hx hb hts hown i_X5 tyX5 tyX5_ok nmX5 hw (hs_59) rfl rfl 7 (by decide) (hts _ k_254) rfl rfl rfl rfl (Nat.le_of_ble_eq_true rfl) rfl dX5_init_64 (fun I_62 H locs eI_62 hw hz => ?_)
  replace hp := hp I_62 eI_62
  refine lv_aload_n hx hb dX5_init_67 rfl (lv_at hl 0 rfl) ?_
  refine lv_iconst (v := 0) hx hb dX5_init_68 (by decide) ?_
  have hz0 := hz
  refine r_putiz hz (C := RX5) (T := TX5) (N := 9) hx hb hts hown i_X5 tyX5 tyX5_ok nmX5 hw (hs_59) rfl rfl 8 (by decide) (hts _ k_256) rfl rfl (nar_z (Or.inl rfl)) (fits_z (Or.inl rfl)) (Nat.le_of_ble_eq_true rfl) rfl dX5_init_69 (fun I_63 H locs eI_63 hw hz => ?_)
  replace hp := hp I_63 eI_63
  refine lv_iconst (v := 0) hx hb dX5_init_72 (by decide) ?_
  refine lv_istore_n (lv' := [(1, .int (0 : Int32)), (0, .ref a0)]) hx hb dX5_init_73 rfl hl (by decide) rfl (fun ls hl => ?_)
  obtain ⟨n, hp⟩ := hp
  exact w_X5_init_74 C hin n _ _ _ ((0 : Int32)) _ _ _ _ _ _ (hs_59) hp hw hz (lv_sub hl [1, 0] rfl)
set_option maxHeartbeats 4000000 in
set_option maxRecDepth 100000 in
theorem c_X6_init (l : Launch) (G : GX) {z : Nat} {Sh : SH} {a0 : Nat} (h0 : Sh a0 = some (sXK 0 a0)) {I : MI} {L : ML} {K : Nat → SH → MI → ML → Prop} (hp : wp_X6_init G z Sh a0 I L K) : CtN l yX6_init (wM yX6_init cX6_init 1 none) (rmB 1 1 6 14) G z Sh [.ref a0] I L K 1 6 := by
  refine ofN (own := RX6) (by decide) rfl (Nat.le_of_ble_eq_true rfl) ?_
  intro p e s m args below meth c ls C hin hw hz hl
  obtain ⟨hx, hb, hr, hml, hown, hts, hlocks⟩ := id C
  replace hl : lv_has ls 1 [(0, .ref a0)] := hl
  unfold wp_X6_init at hp
  refine lv_aload_n hx hb dX6_init_0 rfl (lv_at hl 0 rfl) ?_
  refine W.objInit hx hb hown (hts _ k_56) (hts _ k_57) (hts _ k_58) rfl (by rw [hml]; exact hl.1) rfl dX6_init_1 (Nat.le_of_ble_eq_true rfl) (Nat.le_of_ble_eq_true rfl) ?_
  refine W.eq (g2 := F0 m 4 ls []) rfl ?_
  refine lv_aload_n hx hb dX6_init_4 rfl (lv_at hl 0 rfl) ?_
  refine lv_bipush (v := 6) hx hb dX6_init_5 (by decide) ?_
  obtain ⟨hk_4, hp⟩ := hp
  refine r_newQ (N' := 6) (k := 6) hx hb hown (hts _ k_59) (hw.2.2.2.2.2 _ o_60) hw rfl hz (by decide) (by decide) (Nat.le_of_ble_eq_true rfl) hk_4.1 hk_4.2 dX6_init_7 (fun S_1 I_2 L_3 H eS_1 eI_2 eL_3 hw1 hz1 => ?_)
  replace hp := hp S_1 eS_1 I_2 eI_2 L_3 eL_3
  have hs_6 := sh_new hw hz (h0) eS_1
  have hs_5 : S_1 z = some (sQ G 6 6 (fun _ => none)) := by rw [eS_1]; exact shu_at _ _ _
  have hw := hw1
  have hz := hz1
  obtain ⟨hv_8, hp⟩ := hp
  refine r_putF (C := RX6) (T := TX6) (N := 2) hx hb hts hown i_X6 tyX6 tyX6_ok nmX6 hw (hs_6) rfl rfl 0 (by decide) (hts _ k_61) rfl rfl hin rfl rfl (Nat.le_of_ble_eq_true rfl) (sXK 1 a0) (by rw [hv_8]; rfl) dX6_init_10 (fun S_7 H locs eS_7 hw hz1 => ?_)
  replace hp := hp S_7 eS_7
  replace hz := hz1.trans hz
  have hs_9 : S_7 a0 = some (sXK 1 a0) := by rw [eS_7]; exact shu_at _ _ _
  refine lv_aload_n hx hb dX6_init_13 rfl (lv_at hl 0 rfl) ?_
  refine lv_iconst (v := 0) hx hb dX6_init_14 (by decide) ?_
  have hz0 := hz
  refine r_putiz hz (C := RX6) (T := TX6) (N := 2) hx hb hts hown i_X6 tyX6 tyX6_ok nmX6 hw (hs_9) rfl rfl 1 (by decide) (hts _ k_62) rfl rfl rfl rfl (Nat.le_of_ble_eq_true rfl) rfl dX6_init_15 (fun I_10 H locs eI_10 hw hz => ?_)
  replace hp := hp I_10 eI_10
  exact r_vretN hx hb hr hlocks hw hz hp dX6_init_18
set_option maxHeartbeats 4000000 in
set_option maxRecDepth 100000 in
theorem c_X6_table (l : Launch) (G : GX) {z : Nat} {Sh : SH} {a0 : Nat} (h0 : Sh a0 = some (sXK 1 a0)) {I : MI} {L : ML} {K : Int32 → Nat → SH → MI → ML → Prop} (hp : wp_X6_table G z Sh a0 I L K) : CtT l yX6_table (wM yX6_table cX6_table 1 (some .int)) (rmB 4 134 2160 75) G z Sh [.ref a0] I L K 134 2160 := by
  refine ofN (own := RX6) (by decide) rfl (Nat.le_of_ble_eq_true rfl) ?_
  intro p e s m args below meth c ls C hin hw hz hl
  obtain ⟨hx, hb, hr, hml, hown, hts, hlocks⟩ := id C
  replace hl : lv_has ls 1 [(0, .ref a0)] := hl
  unfold wp_X6_table at hp
  refine lv_aload_n hx hb dX6_table_0 rfl (lv_at hl 0 rfl) ?_
  refine r_get (C := RX6) (T := TX6) (N := 2) hx hb hts hown i_X6 hw (h0) rfl rfl 1 (by decide) (hts _ k_62) rfl rfl dX6_table_1 ?_
  refine lv_bipush (v := 6) hx hb dX6_table_4 (by decide) ?_
  refine lv_icmp_lt (tgt := 12) hx hb dX6_table_6 (by decide) (fun hc_1 => ?_) (fun hc_1 => ?_)
  · replace hp := hp.1 hc_1
    refine lv_aload_n hx hb dX6_table_12 rfl (lv_at hl 0 rfl) ?_
    refine r_get (C := RX6) (T := TX6) (N := 2) hx hb hts hown i_X6 hw (h0) rfl rfl 0 (by decide) (hts _ k_61) rfl rfl dX6_table_13 ?_
    obtain ⟨F_2, hs_3, hp⟩ := hp
    refine W.eq (g2 := F0 m 16 ls [.ref (a0 + 1)]) rfl ?_
    refine lv_aload_n hx hb dX6_table_16 rfl (lv_at hl 0 rfl) ?_
    refine r_get (C := RX6) (T := TX6) (N := 2) hx hb hts hown i_X6 hw (h0) rfl rfl 1 (by decide) (hts _ k_62) rfl rfl dX6_table_17 ?_
    obtain ⟨hk_7, hp⟩ := hp
    refine r_new (C := RX5) (T := TX5) (N := 9) hx hb hts hown i_X5 tyX5 tyX5_ok (hts _ k_59) (hts _ k_72) (hts _ k_37) hw hz rfl (sTableK 0 z) rfl (fun j hj => by rcases (show j = 0 ∨ j = 1 ∨ j = 2 ∨ j = 3 ∨ j = 4 ∨ j = 5 ∨ j = 6 ∨ j = 7 ∨ j = 8 by omega) with rfl | rfl | rfl | rfl | rfl | rfl | rfl | rfl | rfl <;> rfl) hk_7.1 hk_7.2 dX6_table_20 (fun S_4 I_5 L_6 H eS_4 eI_5 eL_6 hw1 hz1 => ?_)
    replace hp := hp S_4 eS_4 I_5 eI_5 L_6 eL_6
    have hs_9 := sh_new hw hz (h0) eS_4
    have hs_10 := sh_new hw hz (hs_3) eS_4
    have hs_8 : S_4 z = some (sTableK 0 z) := by rw [eS_4]; exact shu_at _ _ _
    have hw := hw1
    have hz := hz1
    refine lv_dup hx hb dX6_table_23 rfl ?_
    obtain ⟨hk_15, hp⟩ := hp
    refine r_cnI (As := []) ⟨hx, hb, hml, hown, hts⟩ (c_X5_init l G (hs_8) hp) (cw_X6_19 hts ⟨Nat.le_of_ble_eq_true rfl, Nat.le_of_ble_eq_true rfl⟩) hw hz rfl rfl hl.1 (Nat.le_of_ble_eq_true rfl) hk_15 dX6_table_24 (fun z_11 S_12 I_13 L_14 H locs hp hw hz => ?_)
    obtain ⟨hs_16, hs_17, hs_18, hp⟩ := hp
    obtain ⟨hi_19, hp⟩ := hp
    refine r_aast (ci := 7) hx hb hw (hs_18) rfl (hs_17) rfl rfl hi_19 dX6_table_27 (fun S_20 H locs eS_20 hw hz1 => ?_)
    replace hp := hp S_20 eS_20
    replace hz := hz1.trans hz
    have hs_21 := sh_set (hs_16) (show a0 ≠ (a0 + 1) by omega) eS_20
    refine lv_aload_n hx hb dX6_table_28 rfl (lv_at hl 0 rfl) ?_
    refine lv_dup hx hb dX6_table_29 rfl ?_
    refine r_get (C := RX6) (T := TX6) (N := 2) hx hb hts hown i_X6 hw (hs_21) rfl rfl 1 (by decide) (hts _ k_62) rfl rfl dX6_table_30 ?_
    refine lv_iconst (v := 1) hx hb dX6_table_33 (by decide) ?_
    refine lv_iadd hx hb dX6_table_34 ?_
    have hz0 := hz
    refine r_putiz hz (C := RX6) (T := TX6) (N := 2) hx hb hts hown i_X6 tyX6 tyX6_ok nmX6 hw (hs_21) rfl rfl 1 (by decide) (hts _ k_62) rfl rfl rfl rfl (Nat.le_of_ble_eq_true rfl) rfl dX6_table_35 (fun I_22 H locs eI_22 hw hz => ?_)
    replace hp := hp I_22 eI_22
    refine lv_aload_n hx hb dX6_table_38 rfl (lv_at hl 0 rfl) ?_
    refine r_get (C := RX6) (T := TX6) (N := 2) hx hb hts hown i_X6 hw (hs_21) rfl rfl 1 (by decide) (hts _ k_62) rfl rfl dX6_table_39 ?_
    refine lv_iconst (v := 1) hx hb dX6_table_42 (by decide) ?_
    refine lv_isub hx hb dX6_table_43 ?_
    exact r_iretT hx hb hr hlocks hw hz hp dX6_table_44
  · replace hp := hp.2 hc_1
    refine lv_bipush (v := (-4)) hx hb dX6_table_9 (by decide) ?_
    exact r_iretT hx hb hr hlocks hw hz hp dX6_table_11
set_option maxHeartbeats 4000000 in
set_option maxRecDepth 100000 in
theorem c_X7_init (l : Launch) (G : GX) {z : Nat} {Sh : SH} {a0 : Nat} (h0 : Sh a0 = some (sModelK 0 a0)) {I : MI} {L : ML} {K : Nat → SH → MI → ML → Prop} (hp : wp_X7_init G z Sh a0 I L K) : CtN l yX7_init (wM yX7_init cX7_init 1 none) (rmB 1 34 11376 14) G z Sh [.ref a0] I L K 34 11376 := by
  refine ofN (own := RX7) (by decide) rfl (Nat.le_of_ble_eq_true rfl) ?_
  intro p e s m args below meth c ls C hin hw hz hl
  obtain ⟨hx, hb, hr, hml, hown, hts, hlocks⟩ := id C
  replace hl : lv_has ls 1 [(0, .ref a0)] := hl
  unfold wp_X7_init at hp
  refine lv_aload_n hx hb dX7_init_0 rfl (lv_at hl 0 rfl) ?_
  refine W.objInit hx hb hown (hts _ k_667) (hts _ k_57) (hts _ k_58) rfl (by rw [hml]; exact hl.1) rfl dX7_init_1 (Nat.le_of_ble_eq_true rfl) (Nat.le_of_ble_eq_true rfl) ?_
  refine W.eq (g2 := F0 m 4 ls []) rfl ?_
  refine lv_aload_n hx hb dX7_init_4 rfl (lv_at hl 0 rfl) ?_
  refine lv_sipush (v := 240) hx hb dX7_init_5 (by decide) ?_
  obtain ⟨hk_4, hp⟩ := hp
  refine r_newI (N' := 240) hx hb (hts _ k_114) hw hz (by decide) (by decide) (Nat.le_of_ble_eq_true rfl) hk_4.1 hk_4.2 dX7_init_8 (fun S_1 I_2 L_3 H eS_1 eI_2 eL_3 hw1 hz1 => ?_)
  replace hp := hp S_1 eS_1 I_2 eI_2 L_3 eL_3
  have hs_6 := sh_new hw hz (h0) eS_1
  have hs_5 : S_1 z = some (sI G 240) := by rw [eS_1]; exact shu_at _ _ _
  have hw := hw1
  have hz := hz1
  obtain ⟨hv_8, hp⟩ := hp
  refine r_putF (C := RX7) (T := TX7) (N := 38) hx hb hts hown i_X7 tyX7 tyX7_ok nmX7 hw (hs_6) rfl rfl 2 (by decide) (hts _ k_670) rfl rfl hin rfl rfl (Nat.le_of_ble_eq_true rfl) (sModelK 1 a0) (by rw [hv_8]; rfl) dX7_init_10 (fun S_7 H locs eS_7 hw hz1 => ?_)
  replace hp := hp S_7 eS_7
  replace hz := hz1.trans hz
  have hs_9 : S_7 a0 = some (sModelK 1 a0) := by rw [eS_7]; exact shu_at _ _ _
  refine lv_aload_n hx hb dX7_init_13 rfl (lv_at hl 0 rfl) ?_
  refine lv_bipush (v := 6) hx hb dX7_init_14 (by decide) ?_
  obtain ⟨hk_13, hp⟩ := hp
  refine r_newI (N' := 6) hx hb (hts _ k_114) hw hz (by decide) (by decide) (Nat.le_of_ble_eq_true rfl) hk_13.1 hk_13.2 dX7_init_16 (fun S_10 I_11 L_12 H eS_10 eI_11 eL_12 hw1 hz1 => ?_)
  replace hp := hp S_10 eS_10 I_11 eI_11 L_12 eL_12
  have hs_15 := sh_new hw hz (hs_9) eS_10
  have hs_14 : S_10 (z + 1) = some (sI G 6) := by rw [eS_10]; exact shu_at _ _ _
  have hw := hw1
  have hz := hz1
  obtain ⟨hv_17, hp⟩ := hp
  refine r_putF (C := RX7) (T := TX7) (N := 38) hx hb hts hown i_X7 tyX7 tyX7_ok nmX7 hw (hs_15) rfl rfl 3 (by decide) (hts _ k_671) rfl rfl hin rfl rfl (Nat.le_of_ble_eq_true rfl) (sModelK 2 a0) (by rw [hv_17]; rfl) dX7_init_18 (fun S_16 H locs eS_16 hw hz1 => ?_)
  replace hp := hp S_16 eS_16
  replace hz := hz1.trans hz
  have hs_18 : S_16 a0 = some (sModelK 2 a0) := by rw [eS_16]; exact shu_at _ _ _
  refine lv_aload_n hx hb dX7_init_21 rfl (lv_at hl 0 rfl) ?_
  refine lv_bipush (v := 6) hx hb dX7_init_22 (by decide) ?_
  obtain ⟨hk_22, hp⟩ := hp
  refine r_newZ (N' := 6) hx hb (hts _ k_137) hw hz (by decide) (by decide) (Nat.le_of_ble_eq_true rfl) hk_22.1 hk_22.2 dX7_init_24 (fun S_19 I_20 L_21 H eS_19 eI_20 eL_21 hw1 hz1 => ?_)
  replace hp := hp S_19 eS_19 I_20 eI_20 L_21 eL_21
  have hs_24 := sh_new hw hz (hs_18) eS_19
  have hs_23 : S_19 (z + 2) = some (sZ G 6) := by rw [eS_19]; exact shu_at _ _ _
  have hw := hw1
  have hz := hz1
  obtain ⟨hv_26, hp⟩ := hp
  refine r_putF (C := RX7) (T := TX7) (N := 38) hx hb hts hown i_X7 tyX7 tyX7_ok nmX7 hw (hs_24) rfl rfl 4 (by decide) (hts _ k_672) rfl rfl hin rfl rfl (Nat.le_of_ble_eq_true rfl) (sModelK 3 a0) (by rw [hv_26]; rfl) dX7_init_26 (fun S_25 H locs eS_25 hw hz1 => ?_)
  replace hp := hp S_25 eS_25
  replace hz := hz1.trans hz
  have hs_27 : S_25 a0 = some (sModelK 3 a0) := by rw [eS_25]; exact shu_at _ _ _
  refine lv_aload_n hx hb dX7_init_29 rfl (lv_at hl 0 rfl) ?_
  refine lv_bipush (v := 6) hx hb dX7_init_30 (by decide) ?_
  obtain ⟨hk_31, hp⟩ := hp
  refine r_newI (N' := 6) hx hb (hts _ k_114) hw hz (by decide) (by decide) (Nat.le_of_ble_eq_true rfl) hk_31.1 hk_31.2 dX7_init_32 (fun S_28 I_29 L_30 H eS_28 eI_29 eL_30 hw1 hz1 => ?_)
  replace hp := hp S_28 eS_28 I_29 eI_29 L_30 eL_30
  have hs_33 := sh_new hw hz (hs_27) eS_28
  have hs_32 : S_28 (z + 3) = some (sI G 6) := by rw [eS_28]; exact shu_at _ _ _
  have hw := hw1
  have hz := hz1
  obtain ⟨hv_35, hp⟩ := hp
  refine r_putF (C := RX7) (T := TX7) (N := 38) hx hb hts hown i_X7 tyX7 tyX7_ok nmX7 hw (hs_33) rfl rfl 5 (by decide) (hts _ k_673) rfl rfl hin rfl rfl (Nat.le_of_ble_eq_true rfl) (sModelK 4 a0) (by rw [hv_35]; rfl) dX7_init_34 (fun S_34 H locs eS_34 hw hz1 => ?_)
  replace hp := hp S_34 eS_34
  replace hz := hz1.trans hz
  have hs_36 : S_34 a0 = some (sModelK 4 a0) := by rw [eS_34]; exact shu_at _ _ _
  refine lv_aload_n hx hb dX7_init_37 rfl (lv_at hl 0 rfl) ?_
  refine lv_bipush (v := 6) hx hb dX7_init_38 (by decide) ?_
  obtain ⟨hk_40, hp⟩ := hp
  refine r_newI (N' := 6) hx hb (hts _ k_114) hw hz (by decide) (by decide) (Nat.le_of_ble_eq_true rfl) hk_40.1 hk_40.2 dX7_init_40 (fun S_37 I_38 L_39 H eS_37 eI_38 eL_39 hw1 hz1 => ?_)
  replace hp := hp S_37 eS_37 I_38 eI_38 L_39 eL_39
  have hs_42 := sh_new hw hz (hs_36) eS_37
  have hs_41 : S_37 (z + 4) = some (sI G 6) := by rw [eS_37]; exact shu_at _ _ _
  have hw := hw1
  have hz := hz1
  obtain ⟨hv_44, hp⟩ := hp
  refine r_putF (C := RX7) (T := TX7) (N := 38) hx hb hts hown i_X7 tyX7 tyX7_ok nmX7 hw (hs_42) rfl rfl 6 (by decide) (hts _ k_674) rfl rfl hin rfl rfl (Nat.le_of_ble_eq_true rfl) (sModelK 5 a0) (by rw [hv_44]; rfl) dX7_init_42 (fun S_43 H locs eS_43 hw hz1 => ?_)
  replace hp := hp S_43 eS_43
  replace hz := hz1.trans hz
  have hs_45 : S_43 a0 = some (sModelK 5 a0) := by rw [eS_43]; exact shu_at _ _ _
  refine lv_aload_n hx hb dX7_init_45 rfl (lv_at hl 0 rfl) ?_
  refine lv_bipush (v := 72) hx hb dX7_init_46 (by decide) ?_
  obtain ⟨hk_49, hp⟩ := hp
  refine r_newI (N' := 72) hx hb (hts _ k_114) hw hz (by decide) (by decide) (Nat.le_of_ble_eq_true rfl) hk_49.1 hk_49.2 dX7_init_48 (fun S_46 I_47 L_48 H eS_46 eI_47 eL_48 hw1 hz1 => ?_)
  replace hp := hp S_46 eS_46 I_47 eI_47 L_48 eL_48
  have hs_51 := sh_new hw hz (hs_45) eS_46
  have hs_50 : S_46 (z + 5) = some (sI G 72) := by rw [eS_46]; exact shu_at _ _ _
  have hw := hw1
  have hz := hz1
  obtain ⟨hv_53, hp⟩ := hp
  refine r_putF (C := RX7) (T := TX7) (N := 38) hx hb hts hown i_X7 tyX7 tyX7_ok nmX7 hw (hs_51) rfl rfl 7 (by decide) (hts _ k_675) rfl rfl hin rfl rfl (Nat.le_of_ble_eq_true rfl) (sModelK 6 a0) (by rw [hv_53]; rfl) dX7_init_50 (fun S_52 H locs eS_52 hw hz1 => ?_)
  replace hp := hp S_52 eS_52
  replace hz := hz1.trans hz
  have hs_54 : S_52 a0 = some (sModelK 6 a0) := by rw [eS_52]; exact shu_at _ _ _
  refine lv_aload_n hx hb dX7_init_53 rfl (lv_at hl 0 rfl) ?_
  refine lv_bipush (v := 72) hx hb dX7_init_54 (by decide) ?_
  obtain ⟨hk_58, hp⟩ := hp
  refine r_newI (N' := 72) hx hb (hts _ k_114) hw hz (by decide) (by decide) (Nat.le_of_ble_eq_true rfl) hk_58.1 hk_58.2 dX7_init_56 (fun S_55 I_56 L_57 H eS_55 eI_56 eL_57 hw1 hz1 => ?_)
  replace hp := hp S_55 eS_55 I_56 eI_56 L_57 eL_57
  have hs_60 := sh_new hw hz (hs_54) eS_55
  have hs_59 : S_55 (z + 6) = some (sI G 72) := by rw [eS_55]; exact shu_at _ _ _
  have hw := hw1
  have hz := hz1
  obtain ⟨hv_62, hp⟩ := hp
  refine r_putF (C := RX7) (T := TX7) (N := 38) hx hb hts hown i_X7 tyX7 tyX7_ok nmX7 hw (hs_60) rfl rfl 8 (by decide) (hts _ k_676) rfl rfl hin rfl rfl (Nat.le_of_ble_eq_true rfl) (sModelK 7 a0) (by rw [hv_62]; rfl) dX7_init_58 (fun S_61 H locs eS_61 hw hz1 => ?_)
  replace hp := hp S_61 eS_61
  replace hz := hz1.trans hz
  have hs_63 : S_61 a0 = some (sModelK 7 a0) := by rw [eS_61]; exact shu_at _ _ _
  refine lv_aload_n hx hb dX7_init_61 rfl (lv_at hl 0 rfl) ?_
  refine lv_bipush (v := 78) hx hb dX7_init_62 (by decide) ?_
  obtain ⟨hk_67, hp⟩ := hp
  refine r_newI (N' := 78) hx hb (hts _ k_114) hw hz (by decide) (by decide) (Nat.le_of_ble_eq_true rfl) hk_67.1 hk_67.2 dX7_init_64 (fun S_64 I_65 L_66 H eS_64 eI_65 eL_66 hw1 hz1 => ?_)
  replace hp := hp S_64 eS_64 I_65 eI_65 L_66 eL_66
  have hs_69 := sh_new hw hz (hs_63) eS_64
  have hs_68 : S_64 (z + 7) = some (sI G 78) := by rw [eS_64]; exact shu_at _ _ _
  have hw := hw1
  have hz := hz1
  obtain ⟨hv_71, hp⟩ := hp
  refine r_putF (C := RX7) (T := TX7) (N := 38) hx hb hts hown i_X7 tyX7 tyX7_ok nmX7 hw (hs_69) rfl rfl 9 (by decide) (hts _ k_677) rfl rfl hin rfl rfl (Nat.le_of_ble_eq_true rfl) (sModelK 8 a0) (by rw [hv_71]; rfl) dX7_init_66 (fun S_70 H locs eS_70 hw hz1 => ?_)
  replace hp := hp S_70 eS_70
  replace hz := hz1.trans hz
  have hs_72 : S_70 a0 = some (sModelK 8 a0) := by rw [eS_70]; exact shu_at _ _ _
  refine lv_aload_n hx hb dX7_init_69 rfl (lv_at hl 0 rfl) ?_
  refine lv_bipush (v := 78) hx hb dX7_init_70 (by decide) ?_
  obtain ⟨hk_76, hp⟩ := hp
  refine r_newI (N' := 78) hx hb (hts _ k_114) hw hz (by decide) (by decide) (Nat.le_of_ble_eq_true rfl) hk_76.1 hk_76.2 dX7_init_72 (fun S_73 I_74 L_75 H eS_73 eI_74 eL_75 hw1 hz1 => ?_)
  replace hp := hp S_73 eS_73 I_74 eI_74 L_75 eL_75
  have hs_78 := sh_new hw hz (hs_72) eS_73
  have hs_77 : S_73 (z + 8) = some (sI G 78) := by rw [eS_73]; exact shu_at _ _ _
  have hw := hw1
  have hz := hz1
  obtain ⟨hv_80, hp⟩ := hp
  refine r_putF (C := RX7) (T := TX7) (N := 38) hx hb hts hown i_X7 tyX7 tyX7_ok nmX7 hw (hs_78) rfl rfl 10 (by decide) (hts _ k_678) rfl rfl hin rfl rfl (Nat.le_of_ble_eq_true rfl) (sModelK 9 a0) (by rw [hv_80]; rfl) dX7_init_74 (fun S_79 H locs eS_79 hw hz1 => ?_)
  replace hp := hp S_79 eS_79
  replace hz := hz1.trans hz
  have hs_81 : S_79 a0 = some (sModelK 9 a0) := by rw [eS_79]; exact shu_at _ _ _
  refine lv_aload_n hx hb dX7_init_77 rfl (lv_at hl 0 rfl) ?_
  refine lv_bipush (v := 78) hx hb dX7_init_78 (by decide) ?_
  obtain ⟨hk_85, hp⟩ := hp
  refine r_newI (N' := 78) hx hb (hts _ k_114) hw hz (by decide) (by decide) (Nat.le_of_ble_eq_true rfl) hk_85.1 hk_85.2 dX7_init_80 (fun S_82 I_83 L_84 H eS_82 eI_83 eL_84 hw1 hz1 => ?_)
  replace hp := hp S_82 eS_82 I_83 eI_83 L_84 eL_84
  have hs_87 := sh_new hw hz (hs_81) eS_82
  have hs_86 : S_82 (z + 9) = some (sI G 78) := by rw [eS_82]; exact shu_at _ _ _
  have hw := hw1
  have hz := hz1
  obtain ⟨hv_89, hp⟩ := hp
  refine r_putF (C := RX7) (T := TX7) (N := 38) hx hb hts hown i_X7 tyX7 tyX7_ok nmX7 hw (hs_87) rfl rfl 11 (by decide) (hts _ k_679) rfl rfl hin rfl rfl (Nat.le_of_ble_eq_true rfl) (sModelK 10 a0) (by rw [hv_89]; rfl) dX7_init_82 (fun S_88 H locs eS_88 hw hz1 => ?_)
  replace hp := hp S_88 eS_88
  replace hz := hz1.trans hz
  have hs_90 : S_88 a0 = some (sModelK 10 a0) := by rw [eS_88]; exact shu_at _ _ _
  refine lv_aload_n hx hb dX7_init_85 rfl (lv_at hl 0 rfl) ?_
  refine lv_bipush (v := 78) hx hb dX7_init_86 (by decide) ?_
  obtain ⟨hk_94, hp⟩ := hp
  refine r_newI (N' := 78) hx hb (hts _ k_114) hw hz (by decide) (by decide) (Nat.le_of_ble_eq_true rfl) hk_94.1 hk_94.2 dX7_init_88 (fun S_91 I_92 L_93 H eS_91 eI_92 eL_93 hw1 hz1 => ?_)
  replace hp := hp S_91 eS_91 I_92 eI_92 L_93 eL_93
  have hs_96 := sh_new hw hz (hs_90) eS_91
  have hs_95 : S_91 (z + 10) = some (sI G 78) := by rw [eS_91]; exact shu_at _ _ _
  have hw := hw1
  have hz := hz1
  obtain ⟨hv_98, hp⟩ := hp
  refine r_putF (C := RX7) (T := TX7) (N := 38) hx hb hts hown i_X7 tyX7 tyX7_ok nmX7 hw (hs_96) rfl rfl 12 (by decide) (hts _ k_680) rfl rfl hin rfl rfl (Nat.le_of_ble_eq_true rfl) (sModelK 11 a0) (by rw [hv_98]; rfl) dX7_init_90 (fun S_97 H locs eS_97 hw hz1 => ?_)
  replace hp := hp S_97 eS_97
  replace hz := hz1.trans hz
  have hs_99 : S_97 a0 = some (sModelK 11 a0) := by rw [eS_97]; exact shu_at _ _ _
  refine lv_aload_n hx hb dX7_init_93 rfl (lv_at hl 0 rfl) ?_
  refine lv_bipush (v := 78) hx hb dX7_init_94 (by decide) ?_
  obtain ⟨hk_103, hp⟩ := hp
  refine r_newI (N' := 78) hx hb (hts _ k_114) hw hz (by decide) (by decide) (Nat.le_of_ble_eq_true rfl) hk_103.1 hk_103.2 dX7_init_96 (fun S_100 I_101 L_102 H eS_100 eI_101 eL_102 hw1 hz1 => ?_)
  replace hp := hp S_100 eS_100 I_101 eI_101 L_102 eL_102
  have hs_105 := sh_new hw hz (hs_99) eS_100
  have hs_104 : S_100 (z + 11) = some (sI G 78) := by rw [eS_100]; exact shu_at _ _ _
  have hw := hw1
  have hz := hz1
  obtain ⟨hv_107, hp⟩ := hp
  refine r_putF (C := RX7) (T := TX7) (N := 38) hx hb hts hown i_X7 tyX7 tyX7_ok nmX7 hw (hs_105) rfl rfl 13 (by decide) (hts _ k_681) rfl rfl hin rfl rfl (Nat.le_of_ble_eq_true rfl) (sModelK 12 a0) (by rw [hv_107]; rfl) dX7_init_98 (fun S_106 H locs eS_106 hw hz1 => ?_)
  replace hp := hp S_106 eS_106
  replace hz := hz1.trans hz
  have hs_108 : S_106 a0 = some (sModelK 12 a0) := by rw [eS_106]; exact shu_at _ _ _
  refine lv_aload_n hx hb dX7_init_101 rfl (lv_at hl 0 rfl) ?_
  refine lv_bipush (v := 6) hx hb dX7_init_102 (by decide) ?_
  obtain ⟨hk_112, hp⟩ := hp
  refine r_newI (N' := 6) hx hb (hts _ k_114) hw hz (by decide) (by decide) (Nat.le_of_ble_eq_true rfl) hk_112.1 hk_112.2 dX7_init_104 (fun S_109 I_110 L_111 H eS_109 eI_110 eL_111 hw1 hz1 => ?_)
  replace hp := hp S_109 eS_109 I_110 eI_110 L_111 eL_111
  have hs_114 := sh_new hw hz (hs_108) eS_109
  have hs_113 : S_109 (z + 12) = some (sI G 6) := by rw [eS_109]; exact shu_at _ _ _
  have hw := hw1
  have hz := hz1
  obtain ⟨hv_116, hp⟩ := hp
  refine r_putF (C := RX7) (T := TX7) (N := 38) hx hb hts hown i_X7 tyX7 tyX7_ok nmX7 hw (hs_114) rfl rfl 14 (by decide) (hts _ k_682) rfl rfl hin rfl rfl (Nat.le_of_ble_eq_true rfl) (sModelK 13 a0) (by rw [hv_116]; rfl) dX7_init_106 (fun S_115 H locs eS_115 hw hz1 => ?_)
  replace hp := hp S_115 eS_115
  replace hz := hz1.trans hz
  have hs_117 : S_115 a0 = some (sModelK 13 a0) := by rw [eS_115]; exact shu_at _ _ _
  refine lv_aload_n hx hb dX7_init_109 rfl (lv_at hl 0 rfl) ?_
  refine lv_bipush (v := 6) hx hb dX7_init_110 (by decide) ?_
  obtain ⟨hk_121, hp⟩ := hp
  refine r_newZ (N' := 6) hx hb (hts _ k_137) hw hz (by decide) (by decide) (Nat.le_of_ble_eq_true rfl) hk_121.1 hk_121.2 dX7_init_112 (fun S_118 I_119 L_120 H eS_118 eI_119 eL_120 hw1 hz1 => ?_)
  replace hp := hp S_118 eS_118 I_119 eI_119 L_120 eL_120
  have hs_123 := sh_new hw hz (hs_117) eS_118
  have hs_122 : S_118 (z + 13) = some (sZ G 6) := by rw [eS_118]; exact shu_at _ _ _
  have hw := hw1
  have hz := hz1
  obtain ⟨hv_125, hp⟩ := hp
  refine r_putF (C := RX7) (T := TX7) (N := 38) hx hb hts hown i_X7 tyX7 tyX7_ok nmX7 hw (hs_123) rfl rfl 15 (by decide) (hts _ k_683) rfl rfl hin rfl rfl (Nat.le_of_ble_eq_true rfl) (sModelK 14 a0) (by rw [hv_125]; rfl) dX7_init_114 (fun S_124 H locs eS_124 hw hz1 => ?_)
  replace hp := hp S_124 eS_124
  replace hz := hz1.trans hz
  have hs_126 : S_124 a0 = some (sModelK 14 a0) := by rw [eS_124]; exact shu_at _ _ _
  refine lv_aload_n hx hb dX7_init_117 rfl (lv_at hl 0 rfl) ?_
  refine lv_bipush (v := 120) hx hb dX7_init_118 (by decide) ?_
  obtain ⟨hk_130, hp⟩ := hp
  refine r_newI (N' := 120) hx hb (hts _ k_114) hw hz (by decide) (by decide) (Nat.le_of_ble_eq_true rfl) hk_130.1 hk_130.2 dX7_init_120 (fun S_127 I_128 L_129 H eS_127 eI_128 eL_129 hw1 hz1 => ?_)
  replace hp := hp S_127 eS_127 I_128 eI_128 L_129 eL_129
  have hs_132 := sh_new hw hz (hs_126) eS_127
  have hs_131 : S_127 (z + 14) = some (sI G 120) := by rw [eS_127]; exact shu_at _ _ _
  have hw := hw1
  have hz := hz1
  obtain ⟨hv_134, hp⟩ := hp
  refine r_putF (C := RX7) (T := TX7) (N := 38) hx hb hts hown i_X7 tyX7 tyX7_ok nmX7 hw (hs_132) rfl rfl 16 (by decide) (hts _ k_684) rfl rfl hin rfl rfl (Nat.le_of_ble_eq_true rfl) (sModelK 15 a0) (by rw [hv_134]; rfl) dX7_init_122 (fun S_133 H locs eS_133 hw hz1 => ?_)
  replace hp := hp S_133 eS_133
  replace hz := hz1.trans hz
  have hs_135 : S_133 a0 = some (sModelK 15 a0) := by rw [eS_133]; exact shu_at _ _ _
  refine lv_aload_n hx hb dX7_init_125 rfl (lv_at hl 0 rfl) ?_
  refine lv_bipush (v := 120) hx hb dX7_init_126 (by decide) ?_
  obtain ⟨hk_139, hp⟩ := hp
  refine r_newI (N' := 120) hx hb (hts _ k_114) hw hz (by decide) (by decide) (Nat.le_of_ble_eq_true rfl) hk_139.1 hk_139.2 dX7_init_128 (fun S_136 I_137 L_138 H eS_136 eI_137 eL_138 hw1 hz1 => ?_)
  replace hp := hp S_136 eS_136 I_137 eI_137 L_138 eL_138
  have hs_141 := sh_new hw hz (hs_135) eS_136
  have hs_140 : S_136 (z + 15) = some (sI G 120) := by rw [eS_136]; exact shu_at _ _ _
  have hw := hw1
  have hz := hz1
  obtain ⟨hv_143, hp⟩ := hp
  refine r_putF (C := RX7) (T := TX7) (N := 38) hx hb hts hown i_X7 tyX7 tyX7_ok nmX7 hw (hs_141) rfl rfl 17 (by decide) (hts _ k_685) rfl rfl hin rfl rfl (Nat.le_of_ble_eq_true rfl) (sModelK 16 a0) (by rw [hv_143]; rfl) dX7_init_130 (fun S_142 H locs eS_142 hw hz1 => ?_)
  replace hp := hp S_142 eS_142
  replace hz := hz1.trans hz
  have hs_144 : S_142 a0 = some (sModelK 16 a0) := by rw [eS_142]; exact shu_at _ _ _
  refine lv_aload_n hx hb dX7_init_133 rfl (lv_at hl 0 rfl) ?_
  refine lv_bipush (v := 6) hx hb dX7_init_134 (by decide) ?_
  obtain ⟨hk_148, hp⟩ := hp
  refine r_newI (N' := 6) hx hb (hts _ k_114) hw hz (by decide) (by decide) (Nat.le_of_ble_eq_true rfl) hk_148.1 hk_148.2 dX7_init_136 (fun S_145 I_146 L_147 H eS_145 eI_146 eL_147 hw1 hz1 => ?_)
  replace hp := hp S_145 eS_145 I_146 eI_146 L_147 eL_147
  have hs_150 := sh_new hw hz (hs_144) eS_145
  have hs_149 : S_145 (z + 16) = some (sI G 6) := by rw [eS_145]; exact shu_at _ _ _
  have hw := hw1
  have hz := hz1
  obtain ⟨hv_152, hp⟩ := hp
  refine r_putF (C := RX7) (T := TX7) (N := 38) hx hb hts hown i_X7 tyX7 tyX7_ok nmX7 hw (hs_150) rfl rfl 18 (by decide) (hts _ k_686) rfl rfl hin rfl rfl (Nat.le_of_ble_eq_true rfl) (sModelK 17 a0) (by rw [hv_152]; rfl) dX7_init_138 (fun S_151 H locs eS_151 hw hz1 => ?_)
  replace hp := hp S_151 eS_151
  replace hz := hz1.trans hz
  have hs_153 : S_151 a0 = some (sModelK 17 a0) := by rw [eS_151]; exact shu_at _ _ _
  refine lv_aload_n hx hb dX7_init_141 rfl (lv_at hl 0 rfl) ?_
  refine lv_sipush (v := 2880) hx hb dX7_init_142 (by decide) ?_
  obtain ⟨hk_157, hp⟩ := hp
  refine r_newI (N' := 2880) hx hb (hts _ k_114) hw hz (by decide) (by decide) (Nat.le_of_ble_eq_true rfl) hk_157.1 hk_157.2 dX7_init_145 (fun S_154 I_155 L_156 H eS_154 eI_155 eL_156 hw1 hz1 => ?_)
  replace hp := hp S_154 eS_154 I_155 eI_155 L_156 eL_156
  have hs_159 := sh_new hw hz (hs_153) eS_154
  have hs_158 : S_154 (z + 17) = some (sI G 2880) := by rw [eS_154]; exact shu_at _ _ _
  have hw := hw1
  have hz := hz1
  obtain ⟨hv_161, hp⟩ := hp
  refine r_putF (C := RX7) (T := TX7) (N := 38) hx hb hts hown i_X7 tyX7 tyX7_ok nmX7 hw (hs_159) rfl rfl 19 (by decide) (hts _ k_687) rfl rfl hin rfl rfl (Nat.le_of_ble_eq_true rfl) (sModelK 18 a0) (by rw [hv_161]; rfl) dX7_init_147 (fun S_160 H locs eS_160 hw hz1 => ?_)
  replace hp := hp S_160 eS_160
  replace hz := hz1.trans hz
  have hs_162 : S_160 a0 = some (sModelK 18 a0) := by rw [eS_160]; exact shu_at _ _ _
  refine lv_aload_n hx hb dX7_init_150 rfl (lv_at hl 0 rfl) ?_
  refine lv_sipush (v := 2880) hx hb dX7_init_151 (by decide) ?_
  obtain ⟨hk_166, hp⟩ := hp
  refine r_newI (N' := 2880) hx hb (hts _ k_114) hw hz (by decide) (by decide) (Nat.le_of_ble_eq_true rfl) hk_166.1 hk_166.2 dX7_init_154 (fun S_163 I_164 L_165 H eS_163 eI_164 eL_165 hw1 hz1 => ?_)
  replace hp := hp S_163 eS_163 I_164 eI_164 L_165 eL_165
  have hs_168 := sh_new hw hz (hs_162) eS_163
  have hs_167 : S_163 (z + 18) = some (sI G 2880) := by rw [eS_163]; exact shu_at _ _ _
  have hw := hw1
  have hz := hz1
  obtain ⟨hv_170, hp⟩ := hp
  refine r_putF (C := RX7) (T := TX7) (N := 38) hx hb hts hown i_X7 tyX7 tyX7_ok nmX7 hw (hs_168) rfl rfl 20 (by decide) (hts _ k_688) rfl rfl hin rfl rfl (Nat.le_of_ble_eq_true rfl) (sModelK 19 a0) (by rw [hv_170]; rfl) dX7_init_156 (fun S_169 H locs eS_169 hw hz1 => ?_)
  replace hp := hp S_169 eS_169
  replace hz := hz1.trans hz
  have hs_171 : S_169 a0 = some (sModelK 19 a0) := by rw [eS_169]; exact shu_at _ _ _
  refine lv_aload_n hx hb dX7_init_159 rfl (lv_at hl 0 rfl) ?_
  refine lv_sipush (v := 2880) hx hb dX7_init_160 (by decide) ?_
  obtain ⟨hk_175, hp⟩ := hp
  refine r_newI (N' := 2880) hx hb (hts _ k_114) hw hz (by decide) (by decide) (Nat.le_of_ble_eq_true rfl) hk_175.1 hk_175.2 dX7_init_163 (fun S_172 I_173 L_174 H eS_172 eI_173 eL_174 hw1 hz1 => ?_)
  replace hp := hp S_172 eS_172 I_173 eI_173 L_174 eL_174
  have hs_177 := sh_new hw hz (hs_171) eS_172
  have hs_176 : S_172 (z + 19) = some (sI G 2880) := by rw [eS_172]; exact shu_at _ _ _
  have hw := hw1
  have hz := hz1
  obtain ⟨hv_179, hp⟩ := hp
  refine r_putF (C := RX7) (T := TX7) (N := 38) hx hb hts hown i_X7 tyX7 tyX7_ok nmX7 hw (hs_177) rfl rfl 21 (by decide) (hts _ k_689) rfl rfl hin rfl rfl (Nat.le_of_ble_eq_true rfl) (sModelK 20 a0) (by rw [hv_179]; rfl) dX7_init_165 (fun S_178 H locs eS_178 hw hz1 => ?_)
  replace hp := hp S_178 eS_178
  replace hz := hz1.trans hz
  have hs_180 : S_178 a0 = some (sModelK 20 a0) := by rw [eS_178]; exact shu_at _ _ _
  refine lv_aload_n hx hb dX7_init_168 rfl (lv_at hl 0 rfl) ?_
  refine lv_bipush (v := 6) hx hb dX7_init_169 (by decide) ?_
  obtain ⟨hk_184, hp⟩ := hp
  refine r_newI (N' := 6) hx hb (hts _ k_114) hw hz (by decide) (by decide) (Nat.le_of_ble_eq_true rfl) hk_184.1 hk_184.2 dX7_init_171 (fun S_181 I_182 L_183 H eS_181 eI_182 eL_183 hw1 hz1 => ?_)
  replace hp := hp S_181 eS_181 I_182 eI_182 L_183 eL_183
  have hs_186 := sh_new hw hz (hs_180) eS_181
  have hs_185 : S_181 (z + 20) = some (sI G 6) := by rw [eS_181]; exact shu_at _ _ _
  have hw := hw1
  have hz := hz1
  obtain ⟨hv_188, hp⟩ := hp
  refine r_putF (C := RX7) (T := TX7) (N := 38) hx hb hts hown i_X7 tyX7 tyX7_ok nmX7 hw (hs_186) rfl rfl 22 (by decide) (hts _ k_690) rfl rfl hin rfl rfl (Nat.le_of_ble_eq_true rfl) (sModelK 21 a0) (by rw [hv_188]; rfl) dX7_init_173 (fun S_187 H locs eS_187 hw hz1 => ?_)
  replace hp := hp S_187 eS_187
  replace hz := hz1.trans hz
  have hs_189 : S_187 a0 = some (sModelK 21 a0) := by rw [eS_187]; exact shu_at _ _ _
  refine lv_aload_n hx hb dX7_init_176 rfl (lv_at hl 0 rfl) ?_
  refine lv_sipush (v := 240) hx hb dX7_init_177 (by decide) ?_
  obtain ⟨hk_193, hp⟩ := hp
  refine r_newI (N' := 240) hx hb (hts _ k_114) hw hz (by decide) (by decide) (Nat.le_of_ble_eq_true rfl) hk_193.1 hk_193.2 dX7_init_180 (fun S_190 I_191 L_192 H eS_190 eI_191 eL_192 hw1 hz1 => ?_)
  replace hp := hp S_190 eS_190 I_191 eI_191 L_192 eL_192
  have hs_195 := sh_new hw hz (hs_189) eS_190
  have hs_194 : S_190 (z + 21) = some (sI G 240) := by rw [eS_190]; exact shu_at _ _ _
  have hw := hw1
  have hz := hz1
  obtain ⟨hv_197, hp⟩ := hp
  refine r_putF (C := RX7) (T := TX7) (N := 38) hx hb hts hown i_X7 tyX7 tyX7_ok nmX7 hw (hs_195) rfl rfl 23 (by decide) (hts _ k_691) rfl rfl hin rfl rfl (Nat.le_of_ble_eq_true rfl) (sModelK 22 a0) (by rw [hv_197]; rfl) dX7_init_182 (fun S_196 H locs eS_196 hw hz1 => ?_)
  replace hp := hp S_196 eS_196
  replace hz := hz1.trans hz
  have hs_198 : S_196 a0 = some (sModelK 22 a0) := by rw [eS_196]; exact shu_at _ _ _
  refine lv_aload_n hx hb dX7_init_185 rfl (lv_at hl 0 rfl) ?_
  refine lv_bipush (v := 6) hx hb dX7_init_186 (by decide) ?_
  obtain ⟨hk_202, hp⟩ := hp
  refine r_newI (N' := 6) hx hb (hts _ k_114) hw hz (by decide) (by decide) (Nat.le_of_ble_eq_true rfl) hk_202.1 hk_202.2 dX7_init_188 (fun S_199 I_200 L_201 H eS_199 eI_200 eL_201 hw1 hz1 => ?_)
  replace hp := hp S_199 eS_199 I_200 eI_200 L_201 eL_201
  have hs_204 := sh_new hw hz (hs_198) eS_199
  have hs_203 : S_199 (z + 22) = some (sI G 6) := by rw [eS_199]; exact shu_at _ _ _
  have hw := hw1
  have hz := hz1
  obtain ⟨hv_206, hp⟩ := hp
  refine r_putF (C := RX7) (T := TX7) (N := 38) hx hb hts hown i_X7 tyX7 tyX7_ok nmX7 hw (hs_204) rfl rfl 24 (by decide) (hts _ k_692) rfl rfl hin rfl rfl (Nat.le_of_ble_eq_true rfl) (sModelK 23 a0) (by rw [hv_206]; rfl) dX7_init_190 (fun S_205 H locs eS_205 hw hz1 => ?_)
  replace hp := hp S_205 eS_205
  replace hz := hz1.trans hz
  have hs_207 : S_205 a0 = some (sModelK 23 a0) := by rw [eS_205]; exact shu_at _ _ _
  refine lv_aload_n hx hb dX7_init_193 rfl (lv_at hl 0 rfl) ?_
  refine lv_bipush (v := 6) hx hb dX7_init_194 (by decide) ?_
  obtain ⟨hk_211, hp⟩ := hp
  refine r_newI (N' := 6) hx hb (hts _ k_114) hw hz (by decide) (by decide) (Nat.le_of_ble_eq_true rfl) hk_211.1 hk_211.2 dX7_init_196 (fun S_208 I_209 L_210 H eS_208 eI_209 eL_210 hw1 hz1 => ?_)
  replace hp := hp S_208 eS_208 I_209 eI_209 L_210 eL_210
  have hs_213 := sh_new hw hz (hs_207) eS_208
  have hs_212 : S_208 (z + 23) = some (sI G 6) := by rw [eS_208]; exact shu_at _ _ _
  have hw := hw1
  have hz := hz1
  obtain ⟨hv_215, hp⟩ := hp
  refine r_putF (C := RX7) (T := TX7) (N := 38) hx hb hts hown i_X7 tyX7 tyX7_ok nmX7 hw (hs_213) rfl rfl 25 (by decide) (hts _ k_693) rfl rfl hin rfl rfl (Nat.le_of_ble_eq_true rfl) (sModelK 24 a0) (by rw [hv_215]; rfl) dX7_init_198 (fun S_214 H locs eS_214 hw hz1 => ?_)
  replace hp := hp S_214 eS_214
  replace hz := hz1.trans hz
  have hs_216 : S_214 a0 = some (sModelK 24 a0) := by rw [eS_214]; exact shu_at _ _ _
  refine lv_aload_n hx hb dX7_init_201 rfl (lv_at hl 0 rfl) ?_
  refine lv_bipush (v := 6) hx hb dX7_init_202 (by decide) ?_
  obtain ⟨hk_220, hp⟩ := hp
  refine r_newI (N' := 6) hx hb (hts _ k_114) hw hz (by decide) (by decide) (Nat.le_of_ble_eq_true rfl) hk_220.1 hk_220.2 dX7_init_204 (fun S_217 I_218 L_219 H eS_217 eI_218 eL_219 hw1 hz1 => ?_)
  replace hp := hp S_217 eS_217 I_218 eI_218 L_219 eL_219
  have hs_222 := sh_new hw hz (hs_216) eS_217
  have hs_221 : S_217 (z + 24) = some (sI G 6) := by rw [eS_217]; exact shu_at _ _ _
  have hw := hw1
  have hz := hz1
  obtain ⟨hv_224, hp⟩ := hp
  refine r_putF (C := RX7) (T := TX7) (N := 38) hx hb hts hown i_X7 tyX7 tyX7_ok nmX7 hw (hs_222) rfl rfl 26 (by decide) (hts _ k_694) rfl rfl hin rfl rfl (Nat.le_of_ble_eq_true rfl) (sModelK 25 a0) (by rw [hv_224]; rfl) dX7_init_206 (fun S_223 H locs eS_223 hw hz1 => ?_)
  replace hp := hp S_223 eS_223
  replace hz := hz1.trans hz
  have hs_225 : S_223 a0 = some (sModelK 25 a0) := by rw [eS_223]; exact shu_at _ _ _
  refine lv_aload_n hx hb dX7_init_209 rfl (lv_at hl 0 rfl) ?_
  refine lv_sipush (v := 144) hx hb dX7_init_210 (by decide) ?_
  obtain ⟨hk_229, hp⟩ := hp
  refine r_newI (N' := 144) hx hb (hts _ k_114) hw hz (by decide) (by decide) (Nat.le_of_ble_eq_true rfl) hk_229.1 hk_229.2 dX7_init_213 (fun S_226 I_227 L_228 H eS_226 eI_227 eL_228 hw1 hz1 => ?_)
  replace hp := hp S_226 eS_226 I_227 eI_227 L_228 eL_228
  have hs_231 := sh_new hw hz (hs_225) eS_226
  have hs_230 : S_226 (z + 25) = some (sI G 144) := by rw [eS_226]; exact shu_at _ _ _
  have hw := hw1
  have hz := hz1
  obtain ⟨hv_233, hp⟩ := hp
  refine r_putF (C := RX7) (T := TX7) (N := 38) hx hb hts hown i_X7 tyX7 tyX7_ok nmX7 hw (hs_231) rfl rfl 27 (by decide) (hts _ k_695) rfl rfl hin rfl rfl (Nat.le_of_ble_eq_true rfl) (sModelK 26 a0) (by rw [hv_233]; rfl) dX7_init_215 (fun S_232 H locs eS_232 hw hz1 => ?_)
  replace hp := hp S_232 eS_232
  replace hz := hz1.trans hz
  have hs_234 : S_232 a0 = some (sModelK 26 a0) := by rw [eS_232]; exact shu_at _ _ _
  refine lv_aload_n hx hb dX7_init_218 rfl (lv_at hl 0 rfl) ?_
  refine lv_sipush (v := 144) hx hb dX7_init_219 (by decide) ?_
  obtain ⟨hk_238, hp⟩ := hp
  refine r_newZ (N' := 144) hx hb (hts _ k_137) hw hz (by decide) (by decide) (Nat.le_of_ble_eq_true rfl) hk_238.1 hk_238.2 dX7_init_222 (fun S_235 I_236 L_237 H eS_235 eI_236 eL_237 hw1 hz1 => ?_)
  replace hp := hp S_235 eS_235 I_236 eI_236 L_237 eL_237
  have hs_240 := sh_new hw hz (hs_234) eS_235
  have hs_239 : S_235 (z + 26) = some (sZ G 144) := by rw [eS_235]; exact shu_at _ _ _
  have hw := hw1
  have hz := hz1
  obtain ⟨hv_242, hp⟩ := hp
  refine r_putF (C := RX7) (T := TX7) (N := 38) hx hb hts hown i_X7 tyX7 tyX7_ok nmX7 hw (hs_240) rfl rfl 28 (by decide) (hts _ k_696) rfl rfl hin rfl rfl (Nat.le_of_ble_eq_true rfl) (sModelK 27 a0) (by rw [hv_242]; rfl) dX7_init_224 (fun S_241 H locs eS_241 hw hz1 => ?_)
  replace hp := hp S_241 eS_241
  replace hz := hz1.trans hz
  have hs_243 : S_241 a0 = some (sModelK 27 a0) := by rw [eS_241]; exact shu_at _ _ _
  refine lv_aload_n hx hb dX7_init_227 rfl (lv_at hl 0 rfl) ?_
  refine lv_sipush (v := 144) hx hb dX7_init_228 (by decide) ?_
  obtain ⟨hk_247, hp⟩ := hp
  refine r_newJ (N' := 144) hx hb (hts _ k_138) hw hz (by decide) (by decide) (Nat.le_of_ble_eq_true rfl) hk_247.1 hk_247.2 dX7_init_231 (fun S_244 I_245 L_246 H eS_244 eI_245 eL_246 hw1 hz1 => ?_)
  replace hp := hp S_244 eS_244 I_245 eI_245 L_246 eL_246
  have hs_249 := sh_new hw hz (hs_243) eS_244
  have hs_248 : S_244 (z + 27) = some (sJ G 144) := by rw [eS_244]; exact shu_at _ _ _
  have hw := hw1
  have hz := hz1
  obtain ⟨hv_251, hp⟩ := hp
  refine r_putF (C := RX7) (T := TX7) (N := 38) hx hb hts hown i_X7 tyX7 tyX7_ok nmX7 hw (hs_249) rfl rfl 29 (by decide) (hts _ k_697) rfl rfl hin rfl rfl (Nat.le_of_ble_eq_true rfl) (sModelK 28 a0) (by rw [hv_251]; rfl) dX7_init_233 (fun S_250 H locs eS_250 hw hz1 => ?_)
  replace hp := hp S_250 eS_250
  replace hz := hz1.trans hz
  have hs_252 : S_250 a0 = some (sModelK 28 a0) := by rw [eS_250]; exact shu_at _ _ _
  refine lv_aload_n hx hb dX7_init_236 rfl (lv_at hl 0 rfl) ?_
  refine lv_bipush (v := 6) hx hb dX7_init_237 (by decide) ?_
  obtain ⟨hk_256, hp⟩ := hp
  refine r_newJ (N' := 6) hx hb (hts _ k_138) hw hz (by decide) (by decide) (Nat.le_of_ble_eq_true rfl) hk_256.1 hk_256.2 dX7_init_239 (fun S_253 I_254 L_255 H eS_253 eI_254 eL_255 hw1 hz1 => ?_)
  replace hp := hp S_253 eS_253 I_254 eI_254 L_255 eL_255
  have hs_258 := sh_new hw hz (hs_252) eS_253
  have hs_257 : S_253 (z + 28) = some (sJ G 6) := by rw [eS_253]; exact shu_at _ _ _
  have hw := hw1
  have hz := hz1
  obtain ⟨hv_260, hp⟩ := hp
  refine r_putF (C := RX7) (T := TX7) (N := 38) hx hb hts hown i_X7 tyX7 tyX7_ok nmX7 hw (hs_258) rfl rfl 30 (by decide) (hts _ k_698) rfl rfl hin rfl rfl (Nat.le_of_ble_eq_true rfl) (sModelK 29 a0) (by rw [hv_260]; rfl) dX7_init_241 (fun S_259 H locs eS_259 hw hz1 => ?_)
  replace hp := hp S_259 eS_259
  replace hz := hz1.trans hz
  have hs_261 : S_259 a0 = some (sModelK 29 a0) := by rw [eS_259]; exact shu_at _ _ _
  refine lv_aload_n hx hb dX7_init_244 rfl (lv_at hl 0 rfl) ?_
  refine lv_bipush (v := 6) hx hb dX7_init_245 (by decide) ?_
  obtain ⟨hk_265, hp⟩ := hp
  refine r_newJ (N' := 6) hx hb (hts _ k_138) hw hz (by decide) (by decide) (Nat.le_of_ble_eq_true rfl) hk_265.1 hk_265.2 dX7_init_247 (fun S_262 I_263 L_264 H eS_262 eI_263 eL_264 hw1 hz1 => ?_)
  replace hp := hp S_262 eS_262 I_263 eI_263 L_264 eL_264
  have hs_267 := sh_new hw hz (hs_261) eS_262
  have hs_266 : S_262 (z + 29) = some (sJ G 6) := by rw [eS_262]; exact shu_at _ _ _
  have hw := hw1
  have hz := hz1
  obtain ⟨hv_269, hp⟩ := hp
  refine r_putF (C := RX7) (T := TX7) (N := 38) hx hb hts hown i_X7 tyX7 tyX7_ok nmX7 hw (hs_267) rfl rfl 31 (by decide) (hts _ k_699) rfl rfl hin rfl rfl (Nat.le_of_ble_eq_true rfl) (sModelK 30 a0) (by rw [hv_269]; rfl) dX7_init_249 (fun S_268 H locs eS_268 hw hz1 => ?_)
  replace hp := hp S_268 eS_268
  replace hz := hz1.trans hz
  have hs_270 : S_268 a0 = some (sModelK 30 a0) := by rw [eS_268]; exact shu_at _ _ _
  refine lv_aload_n hx hb dX7_init_252 rfl (lv_at hl 0 rfl) ?_
  refine lv_bipush (v := 6) hx hb dX7_init_253 (by decide) ?_
  obtain ⟨hk_274, hp⟩ := hp
  refine r_newI (N' := 6) hx hb (hts _ k_114) hw hz (by decide) (by decide) (Nat.le_of_ble_eq_true rfl) hk_274.1 hk_274.2 dX7_init_255 (fun S_271 I_272 L_273 H eS_271 eI_272 eL_273 hw1 hz1 => ?_)
  replace hp := hp S_271 eS_271 I_272 eI_272 L_273 eL_273
  have hs_276 := sh_new hw hz (hs_270) eS_271
  have hs_275 : S_271 (z + 30) = some (sI G 6) := by rw [eS_271]; exact shu_at _ _ _
  have hw := hw1
  have hz := hz1
  obtain ⟨hv_278, hp⟩ := hp
  refine r_putF (C := RX7) (T := TX7) (N := 38) hx hb hts hown i_X7 tyX7 tyX7_ok nmX7 hw (hs_276) rfl rfl 32 (by decide) (hts _ k_700) rfl rfl hin rfl rfl (Nat.le_of_ble_eq_true rfl) (sModelK 31 a0) (by rw [hv_278]; rfl) dX7_init_257 (fun S_277 H locs eS_277 hw hz1 => ?_)
  replace hp := hp S_277 eS_277
  replace hz := hz1.trans hz
  have hs_279 : S_277 a0 = some (sModelK 31 a0) := by rw [eS_277]; exact shu_at _ _ _
  refine lv_aload_n hx hb dX7_init_260 rfl (lv_at hl 0 rfl) ?_
  refine lv_bipush (v := 6) hx hb dX7_init_261 (by decide) ?_
  obtain ⟨hk_283, hp⟩ := hp
  refine r_newJ (N' := 6) hx hb (hts _ k_138) hw hz (by decide) (by decide) (Nat.le_of_ble_eq_true rfl) hk_283.1 hk_283.2 dX7_init_263 (fun S_280 I_281 L_282 H eS_280 eI_281 eL_282 hw1 hz1 => ?_)
  replace hp := hp S_280 eS_280 I_281 eI_281 L_282 eL_282
  have hs_285 := sh_new hw hz (hs_279) eS_280
  have hs_284 : S_280 (z + 31) = some (sJ G 6) := by rw [eS_280]; exact shu_at _ _ _
  have hw := hw1
  have hz := hz1
  obtain ⟨hv_287, hp⟩ := hp
  refine r_putF (C := RX7) (T := TX7) (N := 38) hx hb hts hown i_X7 tyX7 tyX7_ok nmX7 hw (hs_285) rfl rfl 33 (by decide) (hts _ k_701) rfl rfl hin rfl rfl (Nat.le_of_ble_eq_true rfl) (sModelK 32 a0) (by rw [hv_287]; rfl) dX7_init_265 (fun S_286 H locs eS_286 hw hz1 => ?_)
  replace hp := hp S_286 eS_286
  replace hz := hz1.trans hz
  have hs_288 : S_286 a0 = some (sModelK 32 a0) := by rw [eS_286]; exact shu_at _ _ _
  refine lv_aload_n hx hb dX7_init_268 rfl (lv_at hl 0 rfl) ?_
  refine lv_sipush (v := 480) hx hb dX7_init_269 (by decide) ?_
  obtain ⟨hk_292, hp⟩ := hp
  refine r_newI (N' := 480) hx hb (hts _ k_114) hw hz (by decide) (by decide) (Nat.le_of_ble_eq_true rfl) hk_292.1 hk_292.2 dX7_init_272 (fun S_289 I_290 L_291 H eS_289 eI_290 eL_291 hw1 hz1 => ?_)
  replace hp := hp S_289 eS_289 I_290 eI_290 L_291 eL_291
  have hs_294 := sh_new hw hz (hs_288) eS_289
  have hs_293 : S_289 (z + 32) = some (sI G 480) := by rw [eS_289]; exact shu_at _ _ _
  have hw := hw1
  have hz := hz1
  obtain ⟨hv_296, hp⟩ := hp
  refine r_putF (C := RX7) (T := TX7) (N := 38) hx hb hts hown i_X7 tyX7 tyX7_ok nmX7 hw (hs_294) rfl rfl 34 (by decide) (hts _ k_702) rfl rfl hin rfl rfl (Nat.le_of_ble_eq_true rfl) (sModelK 33 a0) (by rw [hv_296]; rfl) dX7_init_274 (fun S_295 H locs eS_295 hw hz1 => ?_)
  replace hp := hp S_295 eS_295
  replace hz := hz1.trans hz
  have hs_297 : S_295 a0 = some (sModelK 33 a0) := by rw [eS_295]; exact shu_at _ _ _
  refine lv_aload_n hx hb dX7_init_277 rfl (lv_at hl 0 rfl) ?_
  refine lv_sipush (v := 480) hx hb dX7_init_278 (by decide) ?_
  obtain ⟨hk_301, hp⟩ := hp
  refine r_newI (N' := 480) hx hb (hts _ k_114) hw hz (by decide) (by decide) (Nat.le_of_ble_eq_true rfl) hk_301.1 hk_301.2 dX7_init_281 (fun S_298 I_299 L_300 H eS_298 eI_299 eL_300 hw1 hz1 => ?_)
  replace hp := hp S_298 eS_298 I_299 eI_299 L_300 eL_300
  have hs_303 := sh_new hw hz (hs_297) eS_298
  have hs_302 : S_298 (z + 33) = some (sI G 480) := by rw [eS_298]; exact shu_at _ _ _
  have hw := hw1
  have hz := hz1
  obtain ⟨hv_305, hp⟩ := hp
  refine r_putF (C := RX7) (T := TX7) (N := 38) hx hb hts hown i_X7 tyX7 tyX7_ok nmX7 hw (hs_303) rfl rfl 35 (by decide) (hts _ k_703) rfl rfl hin rfl rfl (Nat.le_of_ble_eq_true rfl) (sModelK 34 a0) (by rw [hv_305]; rfl) dX7_init_283 (fun S_304 H locs eS_304 hw hz1 => ?_)
  replace hp := hp S_304 eS_304
  replace hz := hz1.trans hz
  have hs_306 : S_304 a0 = some (sModelK 34 a0) := by rw [eS_304]; exact shu_at _ _ _
  exact r_vretN hx hb hr hlocks hw hz hp dX7_init_286
end
