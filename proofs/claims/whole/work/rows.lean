section
-- ===== PART A: goes FIRST, ahead of the names: the tables' words, and 'selects' of the private methods out of them =====
/-- a private method of a class that the tables say can be made, by its rows of tables_1 -/
def lw_okq (q : MethodName × Nat) : Prop := (q.1.cls ≠ "java/lang/invoke/MethodHandle" ∧ q.1.cls ≠ "java/lang/invoke/VarHandle") ∧ Cond.instantiable q.1.cls q.2 ∈ tables_1 ∧ Cond.privateMethod q.1 ∈ tables_1 ∧ Cond.instanceMethod q.1 ∈ tables_1
theorem lw_p0 : lw_okq (⟨"HoseSpans", "keepBefore", "()V"⟩, 11) := ⟨⟨by decide +kernel, by decide +kernel⟩, List.mem_of_getElem? (i := 12) (by decide +kernel), List.mem_of_getElem? (i := 155) (by decide +kernel), List.mem_of_getElem? (i := 156) (by decide +kernel)⟩
theorem lw_p1 : lw_okq (⟨"HoseSpans", "settled", "(I)I"⟩, 11) := ⟨⟨by decide +kernel, by decide +kernel⟩, List.mem_of_getElem? (i := 12) (by decide +kernel), List.mem_of_getElem? (i := 176) (by decide +kernel), List.mem_of_getElem? (i := 177) (by decide +kernel)⟩
theorem lw_p2 : lw_okq (⟨"HoseSpans", "counted", "(I)I"⟩, 11) := ⟨⟨by decide +kernel, by decide +kernel⟩, List.mem_of_getElem? (i := 12) (by decide +kernel), List.mem_of_getElem? (i := 186) (by decide +kernel), List.mem_of_getElem? (i := 187) (by decide +kernel)⟩
theorem lw_p3 : lw_okq (⟨"HoseSpans$PumpSearch", "leadOn", "(LHoseSpans$Line;IIII)V"⟩, 1) := ⟨⟨by decide +kernel, by decide +kernel⟩, List.mem_of_getElem? (i := 107) (by decide +kernel), List.mem_of_getElem? (i := 272) (by decide +kernel), List.mem_of_getElem? (i := 273) (by decide +kernel)⟩
theorem lw_p4 : lw_okq (⟨"HoseSpans$Run", "failureAt", "(LHoseSpans$Line;III)I"⟩, 4) := ⟨⟨by decide +kernel, by decide +kernel⟩, List.mem_of_getElem? (i := 83) (by decide +kernel), List.mem_of_getElem? (i := 319) (by decide +kernel), List.mem_of_getElem? (i := 320) (by decide +kernel)⟩
theorem lw_p5 : lw_okq (⟨"HoseSpans$Text", "skipBlanks", "()V"⟩, 6) := ⟨⟨by decide +kernel, by decide +kernel⟩, List.mem_of_getElem? (i := 53) (by decide +kernel), List.mem_of_getElem? (i := 392) (by decide +kernel), List.mem_of_getElem? (i := 393) (by decide +kernel)⟩
theorem lw_p6 : lw_okq (⟨"HoseSpans$Text", "takesOrder", "()Z"⟩, 6) := ⟨⟨by decide +kernel, by decide +kernel⟩, List.mem_of_getElem? (i := 53) (by decide +kernel), List.mem_of_getElem? (i := 396) (by decide +kernel), List.mem_of_getElem? (i := 397) (by decide +kernel)⟩
theorem lw_p7 : lw_okq (⟨"HoseSpans$Text", "byteHere", "()I"⟩, 6) := ⟨⟨by decide +kernel, by decide +kernel⟩, List.mem_of_getElem? (i := 53) (by decide +kernel), List.mem_of_getElem? (i := 400) (by decide +kernel), List.mem_of_getElem? (i := 401) (by decide +kernel)⟩
theorem lw_p8 : lw_okq (⟨"HoseSpans$Text", "takesNumber", "(IZ)Z"⟩, 6) := ⟨⟨by decide +kernel, by decide +kernel⟩, List.mem_of_getElem? (i := 53) (by decide +kernel), List.mem_of_getElem? (i := 407) (by decide +kernel), List.mem_of_getElem? (i := 408) (by decide +kernel)⟩
theorem lw_p9 : lw_okq (⟨"HoseSpans$Text", "isFigureHere", "()Z"⟩, 6) := ⟨⟨by decide +kernel, by decide +kernel⟩, List.mem_of_getElem? (i := 53) (by decide +kernel), List.mem_of_getElem? (i := 411) (by decide +kernel), List.mem_of_getElem? (i := 412) (by decide +kernel)⟩
theorem lw_p10 : lw_okq (⟨"HoseSpans", "obeyed", "(I)I"⟩, 11) := ⟨⟨by decide +kernel, by decide +kernel⟩, List.mem_of_getElem? (i := 12) (by decide +kernel), List.mem_of_getElem? (i := 416) (by decide +kernel), List.mem_of_getElem? (i := 417) (by decide +kernel)⟩
theorem lw_p11 : lw_okq (⟨"HoseSpansModel", "say", "(IIII)V"⟩, 16) := ⟨⟨by decide +kernel, by decide +kernel⟩, List.mem_of_getElem? (i := 446) (by decide +kernel), List.mem_of_getElem? (i := 505) (by decide +kernel), List.mem_of_getElem? (i := 506) (by decide +kernel)⟩
theorem lw_p12 : lw_okq (⟨"HoseSpansModel", "call", "(I)I"⟩, 16) := ⟨⟨by decide +kernel, by decide +kernel⟩, List.mem_of_getElem? (i := 446) (by decide +kernel), List.mem_of_getElem? (i := 509) (by decide +kernel), List.mem_of_getElem? (i := 510) (by decide +kernel)⟩
theorem lw_p13 : lw_okq (⟨"HoseSpansModel", "barOf", "(I)I"⟩, 16) := ⟨⟨by decide +kernel, by decide +kernel⟩, List.mem_of_getElem? (i := 446) (by decide +kernel), List.mem_of_getElem? (i := 513) (by decide +kernel), List.mem_of_getElem? (i := 514) (by decide +kernel)⟩
theorem lw_p14 : lw_okq (⟨"HoseSpansModel", "barSpan", "()I"⟩, 16) := ⟨⟨by decide +kernel, by decide +kernel⟩, List.mem_of_getElem? (i := 446) (by decide +kernel), List.mem_of_getElem? (i := 517) (by decide +kernel), List.mem_of_getElem? (i := 518) (by decide +kernel)⟩
theorem lw_p15 : lw_okq (⟨"HoseSpansModel", "isNode", "(I)Z"⟩, 16) := ⟨⟨by decide +kernel, by decide +kernel⟩, List.mem_of_getElem? (i := 446) (by decide +kernel), List.mem_of_getElem? (i := 532) (by decide +kernel), List.mem_of_getElem? (i := 533) (by decide +kernel)⟩
def lw_privs_1 : List (MethodName × Nat) := [(⟨"HoseSpans", "keepBefore", "()V"⟩, 11), (⟨"HoseSpans", "settled", "(I)I"⟩, 11), (⟨"HoseSpans", "counted", "(I)I"⟩, 11), (⟨"HoseSpans$PumpSearch", "leadOn", "(LHoseSpans$Line;IIII)V"⟩, 1), (⟨"HoseSpans$Run", "failureAt", "(LHoseSpans$Line;III)I"⟩, 4), (⟨"HoseSpans$Text", "skipBlanks", "()V"⟩, 6), (⟨"HoseSpans$Text", "takesOrder", "()Z"⟩, 6), (⟨"HoseSpans$Text", "byteHere", "()I"⟩, 6), (⟨"HoseSpans$Text", "takesNumber", "(IZ)Z"⟩, 6), (⟨"HoseSpans$Text", "isFigureHere", "()Z"⟩, 6), (⟨"HoseSpans", "obeyed", "(I)I"⟩, 11), (⟨"HoseSpansModel", "say", "(IIII)V"⟩, 16), (⟨"HoseSpansModel", "call", "(I)I"⟩, 16), (⟨"HoseSpansModel", "barOf", "(I)I"⟩, 16), (⟨"HoseSpansModel", "barSpan", "()I"⟩, 16), (⟨"HoseSpansModel", "isNode", "(I)Z"⟩, 16)]
theorem lw_r1 : ∀ q ∈ lw_privs_1, lw_okq q := List.forall_mem_cons.mpr ⟨lw_p0, List.forall_mem_cons.mpr ⟨lw_p1, List.forall_mem_cons.mpr ⟨lw_p2, List.forall_mem_cons.mpr ⟨lw_p3, List.forall_mem_cons.mpr ⟨lw_p4, List.forall_mem_cons.mpr ⟨lw_p5, List.forall_mem_cons.mpr ⟨lw_p6, List.forall_mem_cons.mpr ⟨lw_p7, List.forall_mem_cons.mpr ⟨lw_p8, List.forall_mem_cons.mpr ⟨lw_p9, List.forall_mem_cons.mpr ⟨lw_p10, List.forall_mem_cons.mpr ⟨lw_p11, List.forall_mem_cons.mpr ⟨lw_p12, List.forall_mem_cons.mpr ⟨lw_p13, List.forall_mem_cons.mpr ⟨lw_p14, List.forall_mem_cons.mpr ⟨lw_p15, fun _ h => absurd h List.not_mem_nil⟩⟩⟩⟩⟩⟩⟩⟩⟩⟩⟩⟩⟩⟩⟩⟩
theorem lw_p16 : lw_okq (⟨"HoseSpansModel", "isSpan", "(I)Z"⟩, 16) := ⟨⟨by decide +kernel, by decide +kernel⟩, List.mem_of_getElem? (i := 446) (by decide +kernel), List.mem_of_getElem? (i := 536) (by decide +kernel), List.mem_of_getElem? (i := 537) (by decide +kernel)⟩
theorem lw_p17 : lw_okq (⟨"HoseSpansModel", "barMend", "()I"⟩, 16) := ⟨⟨by decide +kernel, by decide +kernel⟩, List.mem_of_getElem? (i := 446) (by decide +kernel), List.mem_of_getElem? (i := 540) (by decide +kernel), List.mem_of_getElem? (i := 541) (by decide +kernel)⟩
theorem lw_p18 : lw_okq (⟨"HoseSpansModel", "ofSpan", "(II)I"⟩, 16) := ⟨⟨by decide +kernel, by decide +kernel⟩, List.mem_of_getElem? (i := 446) (by decide +kernel), List.mem_of_getElem? (i := 544) (by decide +kernel), List.mem_of_getElem? (i := 545) (by decide +kernel)⟩
theorem lw_p19 : lw_okq (⟨"HoseSpansModel", "lengthsOf", "(I)I"⟩, 16) := ⟨⟨by decide +kernel, by decide +kernel⟩, List.mem_of_getElem? (i := 446) (by decide +kernel), List.mem_of_getElem? (i := 548) (by decide +kernel), List.mem_of_getElem? (i := 549) (by decide +kernel)⟩
theorem lw_p20 : lw_okq (⟨"HoseSpansModel", "refuse", "(I)I"⟩, 16) := ⟨⟨by decide +kernel, by decide +kernel⟩, List.mem_of_getElem? (i := 446) (by decide +kernel), List.mem_of_getElem? (i := 553) (by decide +kernel), List.mem_of_getElem? (i := 554) (by decide +kernel)⟩
theorem lw_p21 : lw_okq (⟨"HoseSpansModel", "note", "()V"⟩, 16) := ⟨⟨by decide +kernel, by decide +kernel⟩, List.mem_of_getElem? (i := 446) (by decide +kernel), List.mem_of_getElem? (i := 557) (by decide +kernel), List.mem_of_getElem? (i := 558) (by decide +kernel)⟩
theorem lw_p22 : lw_okq (⟨"HoseSpansModel", "act", "(I)I"⟩, 16) := ⟨⟨by decide +kernel, by decide +kernel⟩, List.mem_of_getElem? (i := 446) (by decide +kernel), List.mem_of_getElem? (i := 564) (by decide +kernel), List.mem_of_getElem? (i := 565) (by decide +kernel)⟩
theorem lw_p23 : lw_okq (⟨"HoseSpansModel", "doSpan", "()I"⟩, 16) := ⟨⟨by decide +kernel, by decide +kernel⟩, List.mem_of_getElem? (i := 446) (by decide +kernel), List.mem_of_getElem? (i := 568) (by decide +kernel), List.mem_of_getElem? (i := 569) (by decide +kernel)⟩
theorem lw_p24 : lw_okq (⟨"HoseSpansModel", "findFewest", "(I)Z"⟩, 16) := ⟨⟨by decide +kernel, by decide +kernel⟩, List.mem_of_getElem? (i := 446) (by decide +kernel), List.mem_of_getElem? (i := 599) (by decide +kernel), List.mem_of_getElem? (i := 600) (by decide +kernel)⟩
theorem lw_p25 : lw_okq (⟨"HoseSpansModel", "goRun", "(II)Z"⟩, 16) := ⟨⟨by decide +kernel, by decide +kernel⟩, List.mem_of_getElem? (i := 446) (by decide +kernel), List.mem_of_getElem? (i := 604) (by decide +kernel), List.mem_of_getElem? (i := 605) (by decide +kernel)⟩
theorem lw_p26 : lw_okq (⟨"HoseSpansModel", "fail", "(II)V"⟩, 16) := ⟨⟨by decide +kernel, by decide +kernel⟩, List.mem_of_getElem? (i := 446) (by decide +kernel), List.mem_of_getElem? (i := 611) (by decide +kernel), List.mem_of_getElem? (i := 612) (by decide +kernel)⟩
theorem lw_p27 : lw_okq (⟨"HoseSpansModel", "goOver", "(III)I"⟩, 16) := ⟨⟨by decide +kernel, by decide +kernel⟩, List.mem_of_getElem? (i := 446) (by decide +kernel), List.mem_of_getElem? (i := 615) (by decide +kernel), List.mem_of_getElem? (i := 616) (by decide +kernel)⟩
theorem lw_p28 : lw_okq (⟨"HoseSpansModel", "lossOf", "(II)I"⟩, 16) := ⟨⟨by decide +kernel, by decide +kernel⟩, List.mem_of_getElem? (i := 446) (by decide +kernel), List.mem_of_getElem? (i := 622) (by decide +kernel), List.mem_of_getElem? (i := 623) (by decide +kernel)⟩
theorem lw_p29 : lw_okq (⟨"HoseSpansModel", "ofRun", "(I)I"⟩, 16) := ⟨⟨by decide +kernel, by decide +kernel⟩, List.mem_of_getElem? (i := 446) (by decide +kernel), List.mem_of_getElem? (i := 645) (by decide +kernel), List.mem_of_getElem? (i := 646) (by decide +kernel)⟩
theorem lw_p30 : lw_okq (⟨"HoseSpansModel", "fewestOf", "(II)I"⟩, 16) := ⟨⟨by decide +kernel, by decide +kernel⟩, List.mem_of_getElem? (i := 446) (by decide +kernel), List.mem_of_getElem? (i := 653) (by decide +kernel), List.mem_of_getElem? (i := 654) (by decide +kernel)⟩
theorem lw_p31 : lw_okq (⟨"HoseSpansModel", "mostNow", "()I"⟩, 16) := ⟨⟨by decide +kernel, by decide +kernel⟩, List.mem_of_getElem? (i := 446) (by decide +kernel), List.mem_of_getElem? (i := 661) (by decide +kernel), List.mem_of_getElem? (i := 662) (by decide +kernel)⟩
def lw_privs_2 : List (MethodName × Nat) := [(⟨"HoseSpansModel", "isSpan", "(I)Z"⟩, 16), (⟨"HoseSpansModel", "barMend", "()I"⟩, 16), (⟨"HoseSpansModel", "ofSpan", "(II)I"⟩, 16), (⟨"HoseSpansModel", "lengthsOf", "(I)I"⟩, 16), (⟨"HoseSpansModel", "refuse", "(I)I"⟩, 16), (⟨"HoseSpansModel", "note", "()V"⟩, 16), (⟨"HoseSpansModel", "act", "(I)I"⟩, 16), (⟨"HoseSpansModel", "doSpan", "()I"⟩, 16), (⟨"HoseSpansModel", "findFewest", "(I)Z"⟩, 16), (⟨"HoseSpansModel", "goRun", "(II)Z"⟩, 16), (⟨"HoseSpansModel", "fail", "(II)V"⟩, 16), (⟨"HoseSpansModel", "goOver", "(III)I"⟩, 16), (⟨"HoseSpansModel", "lossOf", "(II)I"⟩, 16), (⟨"HoseSpansModel", "ofRun", "(I)I"⟩, 16), (⟨"HoseSpansModel", "fewestOf", "(II)I"⟩, 16), (⟨"HoseSpansModel", "mostNow", "()I"⟩, 16)]
theorem lw_r2 : ∀ q ∈ lw_privs_2, lw_okq q := List.forall_mem_cons.mpr ⟨lw_p16, List.forall_mem_cons.mpr ⟨lw_p17, List.forall_mem_cons.mpr ⟨lw_p18, List.forall_mem_cons.mpr ⟨lw_p19, List.forall_mem_cons.mpr ⟨lw_p20, List.forall_mem_cons.mpr ⟨lw_p21, List.forall_mem_cons.mpr ⟨lw_p22, List.forall_mem_cons.mpr ⟨lw_p23, List.forall_mem_cons.mpr ⟨lw_p24, List.forall_mem_cons.mpr ⟨lw_p25, List.forall_mem_cons.mpr ⟨lw_p26, List.forall_mem_cons.mpr ⟨lw_p27, List.forall_mem_cons.mpr ⟨lw_p28, List.forall_mem_cons.mpr ⟨lw_p29, List.forall_mem_cons.mpr ⟨lw_p30, List.forall_mem_cons.mpr ⟨lw_p31, fun _ h => absurd h List.not_mem_nil⟩⟩⟩⟩⟩⟩⟩⟩⟩⟩⟩⟩⟩⟩⟩⟩
theorem lw_p32 : lw_okq (⟨"HoseSpansModel", "countOf", "(I)I"⟩, 16) := ⟨⟨by decide +kernel, by decide +kernel⟩, List.mem_of_getElem? (i := 446) (by decide +kernel), List.mem_of_getElem? (i := 669) (by decide +kernel), List.mem_of_getElem? (i := 670) (by decide +kernel)⟩
theorem lw_p33 : lw_okq (⟨"HoseSpansModel", "findFault", "()I"⟩, 16) := ⟨⟨by decide +kernel, by decide +kernel⟩, List.mem_of_getElem? (i := 446) (by decide +kernel), List.mem_of_getElem? (i := 699) (by decide +kernel), List.mem_of_getElem? (i := 700) (by decide +kernel)⟩
theorem lw_p34 : lw_okq (⟨"HoseSpansModel", "skip", "()V"⟩, 16) := ⟨⟨by decide +kernel, by decide +kernel⟩, List.mem_of_getElem? (i := 446) (by decide +kernel), List.mem_of_getElem? (i := 703) (by decide +kernel), List.mem_of_getElem? (i := 704) (by decide +kernel)⟩
theorem lw_p35 : lw_okq (⟨"HoseSpansModel", "readOrder", "(I)Z"⟩, 16) := ⟨⟨by decide +kernel, by decide +kernel⟩, List.mem_of_getElem? (i := 446) (by decide +kernel), List.mem_of_getElem? (i := 707) (by decide +kernel), List.mem_of_getElem? (i := 708) (by decide +kernel)⟩
theorem lw_p36 : lw_okq (⟨"HoseSpansModel", "readNumber", "(IZ)Z"⟩, 16) := ⟨⟨by decide +kernel, by decide +kernel⟩, List.mem_of_getElem? (i := 446) (by decide +kernel), List.mem_of_getElem? (i := 714) (by decide +kernel), List.mem_of_getElem? (i := 715) (by decide +kernel)⟩
theorem lw_p37 : lw_okq (⟨"HoseSpansModel", "isFigure", "()Z"⟩, 16) := ⟨⟨by decide +kernel, by decide +kernel⟩, List.mem_of_getElem? (i := 446) (by decide +kernel), List.mem_of_getElem? (i := 718) (by decide +kernel), List.mem_of_getElem? (i := 719) (by decide +kernel)⟩
theorem lw_p38 : lw_okq (⟨"HoseSpansModel", "toldOf", "(I)I"⟩, 16) := ⟨⟨by decide +kernel, by decide +kernel⟩, List.mem_of_getElem? (i := 446) (by decide +kernel), List.mem_of_getElem? (i := 730) (by decide +kernel), List.mem_of_getElem? (i := 731) (by decide +kernel)⟩
def lw_privs_3 : List (MethodName × Nat) := [(⟨"HoseSpansModel", "countOf", "(I)I"⟩, 16), (⟨"HoseSpansModel", "findFault", "()I"⟩, 16), (⟨"HoseSpansModel", "skip", "()V"⟩, 16), (⟨"HoseSpansModel", "readOrder", "(I)Z"⟩, 16), (⟨"HoseSpansModel", "readNumber", "(IZ)Z"⟩, 16), (⟨"HoseSpansModel", "isFigure", "()Z"⟩, 16), (⟨"HoseSpansModel", "toldOf", "(I)I"⟩, 16)]
theorem lw_r3 : ∀ q ∈ lw_privs_3, lw_okq q := List.forall_mem_cons.mpr ⟨lw_p32, List.forall_mem_cons.mpr ⟨lw_p33, List.forall_mem_cons.mpr ⟨lw_p34, List.forall_mem_cons.mpr ⟨lw_p35, List.forall_mem_cons.mpr ⟨lw_p36, List.forall_mem_cons.mpr ⟨lw_p37, List.forall_mem_cons.mpr ⟨lw_p38, fun _ h => absurd h List.not_mem_nil⟩⟩⟩⟩⟩⟩⟩
def lw_privs : List (MethodName × Nat) := lw_privs_1 ++ (lw_privs_2 ++ (lw_privs_3))
def lw_tbl : List Cond := k2_sels lw_privs ++ tables_1
theorem lw_privs_ok : ∀ q ∈ lw_privs, lw_okq q := by
  show ∀ q ∈ lw_privs_1 ++ (lw_privs_2 ++ (lw_privs_3)), lw_okq q
  exact List.forall_mem_append.mpr ⟨lw_r1, List.forall_mem_append.mpr ⟨lw_r2, lw_r3⟩⟩
-- ===== end of PART A; then your names; then what follows =====
end
section
/-! ===== BEGIN words of one list among another's, by their places ===== -/
theorem goodIn_r {big : List Cond} (ws : List Cond) (ps : List Nat) (hp : ws = ps.filterMap (fun i => big[i]?)) (h : ws.all goodWord = true) : GoodIn big ws := by
  intro w hw
  have h1 := List.all_eq_true.mp h w hw
  rw [hp] at hw
  obtain ⟨i, -, hi⟩ := List.mem_filterMap.mp hw
  have hm : w ∈ big := by first | exact List.mem_of_getElem? hi | exact List.getElem?_mem hi
  exact ⟨hm, good_of_word h1⟩
theorem goodIn_app {big a b : List Cond} (ha : GoodIn big a) (hb : GoodIn big b) : GoodIn big (a ++ b) := fun w h => (List.mem_append.mp h).elim (ha w) (hb w)
theorem goodIn_ca {big a b : List Cond} {c : Cond} (ha : GoodIn big (c :: a)) (hb : GoodIn big b) : GoodIn big (c :: (a ++ b)) := fun w h => (List.mem_cons.mp h).elim (fun e => ha w (List.mem_cons.mpr (Or.inl e))) (fun h => (List.mem_append.mp h).elim (fun h => ha w (List.mem_cons.mpr (Or.inr h))) (hb w))
theorem goodIn_sub {big ws : List Cond} (hm : ∀ w ∈ ws, w ∈ big) (h : ws.all goodWord = true) : GoodIn big ws := fun w hw => ⟨hm w hw, good_of_word (List.all_eq_true.mp h w hw)⟩
/-! ===== END ===== -/

/-! ===== BEGIN printed: names, fields, word lists, decode rows ===== -/
def RX0 : String := "HoseSpans$Line"
def TX0 : u_T := fun k => match k with
  | 0 => ("HoseSpans$Line", "spans", "I", false)
  | 1 => ("HoseSpans$Line", "pumps", "I", false)
  | 2 => ("HoseSpans$Line", "facts", "[I", true)
  | _ => ("HoseSpans$Line", "settings", "[I", true)
def tyX0 : Nat → FieldType := fun k => match k with
  | 0 => .int
  | 1 => .int
  | 2 => .array .int
  | _ => .array .int
abbrev wsX00 : List Cond := u_ws RX0 TX0 4
theorem nmX0 : ∀ a, a < 4 → ∀ b, b < 4 → a ≠ b → (TX0 a).2.1 ≠ (TX0 b).2.1 := by decide +kernel
theorem tyX0_ok : ∀ k, k < 4 → parseFieldDescriptor (TX0 k).2.2.1 = some (tyX0 k) := by decide +kernel
abbrev cX0_init : ByteArray := prog_2_method_1_code
def yX0_init : MethodName := ⟨RX0, "<init>", "()V"⟩
abbrev cX0_copyFrom : ByteArray := prog_2_method_2_code
def yX0_copyFrom : MethodName := ⟨RX0, "copyFrom", "(LHoseSpans$Line;)V"⟩
abbrev cX0_hasSpan : ByteArray := prog_2_method_3_code
def yX0_hasSpan : MethodName := ⟨RX0, "hasSpan", "(I)Z"⟩
abbrev cX0_hasNode : ByteArray := prog_2_method_4_code
def yX0_hasNode : MethodName := ⟨RX0, "hasNode", "(I)Z"⟩
abbrev cX0_hasPump : ByteArray := prog_2_method_5_code
def yX0_hasPump : MethodName := ⟨RX0, "hasPump", "(I)Z"⟩
abbrev cX0_fact : ByteArray := prog_2_method_6_code
def yX0_fact : MethodName := ⟨RX0, "fact", "(II)I"⟩
abbrev cX0_setFact : ByteArray := prog_2_method_7_code
def yX0_setFact : MethodName := ⟨RX0, "setFact", "(III)V"⟩
abbrev cX0_addSpan : ByteArray := prog_2_method_8_code
def yX0_addSpan : MethodName := ⟨RX0, "addSpan", "(IIII)I"⟩
abbrev cX0_cutLast : ByteArray := prog_2_method_9_code
def yX0_cutLast : MethodName := ⟨RX0, "cutLast", "()I"⟩
abbrev cX0_changeSetting : ByteArray := prog_2_method_10_code
def yX0_changeSetting : MethodName := ⟨RX0, "changeSetting", "(II)I"⟩
abbrev cX0_turnPump : ByteArray := prog_2_method_11_code
def yX0_turnPump : MethodName := ⟨RX0, "turnPump", "(I)I"⟩
abbrev cX0_burstSpan : ByteArray := prog_2_method_12_code
def yX0_burstSpan : MethodName := ⟨RX0, "burstSpan", "(I)I"⟩
abbrev cX0_mendSpan : ByteArray := prog_2_method_13_code
def yX0_mendSpan : MethodName := ⟨RX0, "mendSpan", "(I)I"⟩
abbrev cX0_hosesOf : ByteArray := prog_2_method_14_code
def yX0_hosesOf : MethodName := ⟨RX0, "hosesOf", "(I)I"⟩
abbrev cX0_allLengths : ByteArray := prog_2_method_15_code
def yX0_allLengths : MethodName := ⟨RX0, "allLengths", "()I"⟩
abbrev cX0_burstSpans : ByteArray := prog_2_method_16_code
def yX0_burstSpans : MethodName := ⟨RX0, "burstSpans", "()I"⟩
abbrev cX0_lossBy : ByteArray := prog_2_method_17_code
def yX0_lossBy : MethodName := ⟨RX0, "lossBy", "(II)I"⟩
abbrev cX0_failureOf : ByteArray := prog_2_method_18_code
def yX0_failureOf : MethodName := ⟨RX0, "failureOf", "(III)I"⟩
def RX1 : String := "HoseSpans$PumpSearch"
def TX1 : u_T := fun k => match k with
  | _ => ("HoseSpans$PumpSearch", "best", "[I", true)
def tyX1 : Nat → FieldType := fun k => match k with
  | _ => .array .int
abbrev wsX10 : List Cond := u_ws RX1 TX1 1
theorem nmX1 : ∀ a, a < 1 → ∀ b, b < 1 → a ≠ b → (TX1 a).2.1 ≠ (TX1 b).2.1 := by decide +kernel
theorem tyX1_ok : ∀ k, k < 1 → parseFieldDescriptor (TX1 k).2.2.1 = some (tyX1 k) := by decide +kernel
abbrev cX1_init : ByteArray := prog_3_method_1_code
def yX1_init : MethodName := ⟨RX1, "<init>", "()V"⟩
abbrev cX1_bestSet : ByteArray := prog_3_method_2_code
def yX1_bestSet : MethodName := ⟨RX1, "bestSet", "(LHoseSpans$Line;I)I"⟩
abbrev cX1_leadOn : ByteArray := prog_3_method_3_code
def yX1_leadOn : MethodName := ⟨RX1, "leadOn", "(LHoseSpans$Line;IIII)V"⟩
def RX2 : String := "HoseSpans$Run"
def TX2 : u_T := fun k => match k with
  | 0 => ("HoseSpans$Run", "where", "I", false)
  | 1 => ("HoseSpans$Run", "how", "I", false)
  | 2 => ("HoseSpans$Run", "in", "[I", true)
  | _ => ("HoseSpans$Run", "behind", "[I", true)
def tyX2 : Nat → FieldType := fun k => match k with
  | 0 => .int
  | 1 => .int
  | 2 => .array .int
  | _ => .array .int
abbrev wsX20 : List Cond := u_ws RX2 TX2 4
theorem nmX2 : ∀ a, a < 4 → ∀ b, b < 4 → a ≠ b → (TX2 a).2.1 ≠ (TX2 b).2.1 := by decide +kernel
theorem tyX2_ok : ∀ k, k < 4 → parseFieldDescriptor (TX2 k).2.2.1 = some (tyX2 k) := by decide +kernel
abbrev cX2_init : ByteArray := prog_4_method_1_code
def yX2_init : MethodName := ⟨RX2, "<init>", "()V"⟩
abbrev cX2_follow : ByteArray := prog_4_method_2_code
def yX2_follow : MethodName := ⟨RX2, "follow", "(LHoseSpans$Line;I)V"⟩
abbrev cX2_failureAt : ByteArray := prog_4_method_3_code
def yX2_failureAt : MethodName := ⟨RX2, "failureAt", "(LHoseSpans$Line;III)I"⟩
def RX3 : String := "HoseSpans$Text"
def TX3 : u_T := fun k => match k with
  | 0 => ("HoseSpans$Text", "length", "I", false)
  | 1 => ("HoseSpans$Text", "orders", "I", false)
  | 2 => ("HoseSpans$Text", "place", "I", false)
  | 3 => ("HoseSpans$Text", "letters", "[B", true)
  | 4 => ("HoseSpans$Text", "bytes", "[B", true)
  | _ => ("HoseSpans$Text", "numbers", "[I", true)
def tyX3 : Nat → FieldType := fun k => match k with
  | 0 => .int
  | 1 => .int
  | 2 => .int
  | 3 => .array .byte
  | 4 => .array .byte
  | _ => .array .int
abbrev wsX30 : List Cond := u_ws RX3 TX3 6
theorem nmX3 : ∀ a, a < 6 → ∀ b, b < 6 → a ≠ b → (TX3 a).2.1 ≠ (TX3 b).2.1 := by decide +kernel
theorem tyX3_ok : ∀ k, k < 6 → parseFieldDescriptor (TX3 k).2.2.1 = some (tyX3 k) := by decide +kernel
abbrev cX3_init : ByteArray := prog_5_method_1_code
def yX3_init : MethodName := ⟨RX3, "<init>", "()V"⟩
abbrev cX3_put : ByteArray := prog_5_method_2_code
def yX3_put : MethodName := ⟨RX3, "put", "(I)V"⟩
abbrev cX3_number : ByteArray := prog_5_method_3_code
def yX3_number : MethodName := ⟨RX3, "number", "(II)I"⟩
abbrev cX3_isRead : ByteArray := prog_5_method_4_code
def yX3_isRead : MethodName := ⟨RX3, "isRead", "()Z"⟩
abbrev cX3_takesOrder : ByteArray := prog_5_method_5_code
def yX3_takesOrder : MethodName := ⟨RX3, "takesOrder", "()Z"⟩
abbrev cX3_numbersOf : ByteArray := prog_5_method_6_code
def yX3_numbersOf : MethodName := ⟨RX3, "numbersOf", "(I)I"⟩
abbrev cX3_takesNumber : ByteArray := prog_5_method_7_code
def yX3_takesNumber : MethodName := ⟨RX3, "takesNumber", "(IZ)Z"⟩
abbrev cX3_isFigureHere : ByteArray := prog_5_method_8_code
def yX3_isFigureHere : MethodName := ⟨RX3, "isFigureHere", "()Z"⟩
abbrev cX3_byteHere : ByteArray := prog_5_method_9_code
def yX3_byteHere : MethodName := ⟨RX3, "byteHere", "()I"⟩
abbrev cX3_skipBlanks : ByteArray := prog_5_method_10_code
def yX3_skipBlanks : MethodName := ⟨RX3, "skipBlanks", "()V"⟩
def RX4 : String := "HoseSpans"
def TX4 : u_T := fun k => match k with
  | 0 => ("HoseSpans", "line", "LHoseSpans$Line;", true)
  | 1 => ("HoseSpans", "before", "LHoseSpans$Line;", true)
  | 2 => ("HoseSpans", "states", "[LHoseSpans$Line;", true)
  | 3 => ("HoseSpans", "nextState", "I", false)
  | 4 => ("HoseSpans", "statesLeft", "I", false)
  | 5 => ("HoseSpans", "refusedBad", "I", false)
  | 6 => ("HoseSpans", "refusedNo", "I", false)
  | 7 => ("HoseSpans", "refusedFull", "I", false)
  | 8 => ("HoseSpans", "text", "LHoseSpans$Text;", true)
  | 9 => ("HoseSpans", "water", "LHoseSpans$Run;", true)
  | _ => ("HoseSpans", "search", "LHoseSpans$PumpSearch;", true)
def tyX4 : Nat → FieldType := fun k => match k with
  | 0 => .object "HoseSpans$Line"
  | 1 => .object "HoseSpans$Line"
  | 2 => .array (.object "HoseSpans$Line")
  | 3 => .int
  | 4 => .int
  | 5 => .int
  | 6 => .int
  | 7 => .int
  | 8 => .object "HoseSpans$Text"
  | 9 => .object "HoseSpans$Run"
  | _ => .object "HoseSpans$PumpSearch"
abbrev wsX40 : List Cond := u_ws RX4 TX4 11
theorem nmX4 : ∀ a, a < 11 → ∀ b, b < 11 → a ≠ b → (TX4 a).2.1 ≠ (TX4 b).2.1 := by decide +kernel
theorem tyX4_ok : ∀ k, k < 11 → parseFieldDescriptor (TX4 k).2.2.1 = some (tyX4 k) := by decide +kernel
abbrev cX4_init : ByteArray := prog_1_method_1_code
def yX4_init : MethodName := ⟨RX4, "<init>", "()V"⟩
abbrev cX4_span : ByteArray := prog_1_method_2_code
def yX4_span : MethodName := ⟨RX4, "span", "(IIII)I"⟩
abbrev cX4_cuts : ByteArray := prog_1_method_3_code
def yX4_cuts : MethodName := ⟨RX4, "cuts", "()I"⟩
abbrev cX4_sets : ByteArray := prog_1_method_4_code
def yX4_sets : MethodName := ⟨RX4, "sets", "(II)I"⟩
abbrev cX4_pumps : ByteArray := prog_1_method_5_code
def yX4_pumps : MethodName := ⟨RX4, "pumps", "(I)I"⟩
abbrev cX4_bursts : ByteArray := prog_1_method_6_code
def yX4_bursts : MethodName := ⟨RX4, "bursts", "(I)I"⟩
abbrev cX4_mends : ByteArray := prog_1_method_7_code
def yX4_mends : MethodName := ⟨RX4, "mends", "(I)I"⟩
abbrev cX4_lays : ByteArray := prog_1_method_8_code
def yX4_lays : MethodName := ⟨RX4, "lays", "()I"⟩
abbrev cX4_of : ByteArray := prog_1_method_9_code
def yX4_of : MethodName := ⟨RX4, "of", "(II)I"⟩
abbrev cX4_loss : ByteArray := prog_1_method_10_code
def yX4_loss : MethodName := ⟨RX4, "loss", "(II)I"⟩
abbrev cX4_node : ByteArray := prog_1_method_11_code
def yX4_node : MethodName := ⟨RX4, "node", "(II)I"⟩
abbrev cX4_run : ByteArray := prog_1_method_12_code
def yX4_run : MethodName := ⟨RX4, "run", "(I)I"⟩
abbrev cX4_fewest : ByteArray := prog_1_method_13_code
def yX4_fewest : MethodName := ⟨RX4, "fewest", "(II)I"⟩
abbrev cX4_most : ByteArray := prog_1_method_14_code
def yX4_most : MethodName := ⟨RX4, "most", "()I"⟩
abbrev cX4_count : ByteArray := prog_1_method_15_code
def yX4_count : MethodName := ⟨RX4, "count", "(I)I"⟩
abbrev cX4_shuttle : ByteArray := prog_1_method_16_code
def yX4_shuttle : MethodName := ⟨RX4, "shuttle", "(IIIII)I"⟩
abbrev cX4_tanks : ByteArray := prog_1_method_17_code
def yX4_tanks : MethodName := ⟨RX4, "tanks", "(IIIII)I"⟩
abbrev cX4_type : ByteArray := prog_1_method_18_code
def yX4_type : MethodName := ⟨RX4, "type", "(I)I"⟩
abbrev cX4_clear : ByteArray := prog_1_method_19_code
def yX4_clear : MethodName := ⟨RX4, "clear", "()I"⟩
abbrev cX4_does : ByteArray := prog_1_method_20_code
def yX4_does : MethodName := ⟨RX4, "does", "()I"⟩
abbrev cX4_back : ByteArray := prog_1_method_21_code
def yX4_back : MethodName := ⟨RX4, "back", "()I"⟩
abbrev cX4_told : ByteArray := prog_1_method_22_code
def yX4_told : MethodName := ⟨RX4, "told", "(I)I"⟩
abbrev cX4_digest : ByteArray := prog_1_method_23_code
def yX4_digest : MethodName := ⟨RX4, "digest", "()J"⟩
abbrev cX4_within : ByteArray := prog_1_method_24_code
def yX4_within : MethodName := ⟨RX4, "within", "(III)Z"⟩
abbrev cX4_isRefusal : ByteArray := prog_1_method_25_code
def yX4_isRefusal : MethodName := ⟨RX4, "isRefusal", "(I)Z"⟩
abbrev cX4_counted : ByteArray := prog_1_method_26_code
def yX4_counted : MethodName := ⟨RX4, "counted", "(I)I"⟩
abbrev cX4_keepBefore : ByteArray := prog_1_method_27_code
def yX4_keepBefore : MethodName := ⟨RX4, "keepBefore", "()V"⟩
abbrev cX4_settled : ByteArray := prog_1_method_28_code
def yX4_settled : MethodName := ⟨RX4, "settled", "(I)I"⟩
abbrev cX4_obeyed : ByteArray := prog_1_method_29_code
def yX4_obeyed : MethodName := ⟨RX4, "obeyed", "(I)I"⟩
abbrev cX4_sizeOf : ByteArray := prog_1_method_30_code
def yX4_sizeOf : MethodName := ⟨RX4, "sizeOf", "(I)I"⟩
abbrev cX4_bitsOf : ByteArray := prog_1_method_31_code
def yX4_bitsOf : MethodName := ⟨RX4, "bitsOf", "(I)I"⟩
abbrev cX4_isTrip : ByteArray := prog_1_method_32_code
def yX4_isTrip : MethodName := ⟨RX4, "isTrip", "(IIII)Z"⟩
abbrev cX4_broughtInHour : ByteArray := prog_1_method_33_code
def yX4_broughtInHour : MethodName := ⟨RX4, "broughtInHour", "(IIIII)I"⟩
def RX5 : String := "HoseSpansModel"
def TX5 : u_T := fun k => match k with
  | 0 => ("HoseSpansModel", "now", "[I", true)
  | 1 => ("HoseSpansModel", "aside", "[I", true)
  | 2 => ("HoseSpansModel", "past", "[I", true)
  | 3 => ("HoseSpansModel", "states", "I", false)
  | 4 => ("HoseSpansModel", "refused", "[I", true)
  | 5 => ("HoseSpansModel", "text", "[I", true)
  | 6 => ("HoseSpansModel", "bytes", "I", false)
  | 7 => ("HoseSpansModel", "at", "I", false)
  | 8 => ("HoseSpansModel", "into", "[I", true)
  | 9 => ("HoseSpansModel", "behind", "[I", true)
  | 10 => ("HoseSpansModel", "failsAt", "I", false)
  | 11 => ("HoseSpansModel", "how", "I", false)
  | 12 => ("HoseSpansModel", "last", "I", false)
  | 13 => ("HoseSpansModel", "fewestSet", "I", false)
  | 14 => ("HoseSpansModel", "said", "[I", true)
  | _ => ("HoseSpansModel", "behindAll", "[I", true)
def tyX5 : Nat → FieldType := fun k => match k with
  | 0 => .array .int
  | 1 => .array .int
  | 2 => .array .int
  | 3 => .int
  | 4 => .array .int
  | 5 => .array .int
  | 6 => .int
  | 7 => .int
  | 8 => .array .int
  | 9 => .array .int
  | 10 => .int
  | 11 => .int
  | 12 => .int
  | 13 => .int
  | 14 => .array .int
  | _ => .array .int
abbrev wsX50 : List Cond := u_ws RX5 TX5 16
theorem nmX5 : ∀ a, a < 16 → ∀ b, b < 16 → a ≠ b → (TX5 a).2.1 ≠ (TX5 b).2.1 := by decide +kernel
theorem tyX5_ok : ∀ k, k < 16 → parseFieldDescriptor (TX5 k).2.2.1 = some (tyX5 k) := by decide +kernel
abbrev cX5_init : ByteArray := prog_7_method_1_code
def yX5_init : MethodName := ⟨RX5, "<init>", "()V"⟩
abbrev cX5_in : ByteArray := prog_7_method_2_code
def yX5_in : MethodName := ⟨RX5, "in", "(III)Z"⟩
abbrev cX5_has : ByteArray := prog_7_method_3_code
def yX5_has : MethodName := ⟨RX5, "has", "(II)Z"⟩
abbrev cX5_ones : ByteArray := prog_7_method_4_code
def yX5_ones : MethodName := ⟨RX5, "ones", "(I)I"⟩
abbrev cX5_bring : ByteArray := prog_7_method_5_code
def yX5_bring : MethodName := ⟨RX5, "bring", "([II[II)V"⟩
abbrev cX5_refuse : ByteArray := prog_7_method_6_code
def yX5_refuse : MethodName := ⟨RX5, "refuse", "(I)I"⟩
abbrev cX5_note : ByteArray := prog_7_method_7_code
def yX5_note : MethodName := ⟨RX5, "note", "()V"⟩
abbrev cX5_isSpan : ByteArray := prog_7_method_8_code
def yX5_isSpan : MethodName := ⟨RX5, "isSpan", "(I)Z"⟩
abbrev cX5_isNode : ByteArray := prog_7_method_9_code
def yX5_isNode : MethodName := ⟨RX5, "isNode", "(I)Z"⟩
abbrev cX5_ofSpan : ByteArray := prog_7_method_10_code
def yX5_ofSpan : MethodName := ⟨RX5, "ofSpan", "(II)I"⟩
abbrev cX5_lengthsOf : ByteArray := prog_7_method_11_code
def yX5_lengthsOf : MethodName := ⟨RX5, "lengthsOf", "(I)I"⟩
abbrev cX5_hardOf : ByteArray := prog_7_method_12_code
def yX5_hardOf : MethodName := ⟨RX5, "hardOf", "(I)I"⟩
abbrev cX5_standsOf : ByteArray := prog_7_method_13_code
def yX5_standsOf : MethodName := ⟨RX5, "standsOf", "(I)I"⟩
abbrev cX5_lossOf : ByteArray := prog_7_method_14_code
def yX5_lossOf : MethodName := ⟨RX5, "lossOf", "(II)I"⟩
abbrev cX5_fail : ByteArray := prog_7_method_15_code
def yX5_fail : MethodName := ⟨RX5, "fail", "(II)V"⟩
abbrev cX5_goOver : ByteArray := prog_7_method_16_code
def yX5_goOver : MethodName := ⟨RX5, "goOver", "(III)I"⟩
abbrev cX5_goRun : ByteArray := prog_7_method_17_code
def yX5_goRun : MethodName := ⟨RX5, "goRun", "(II)Z"⟩
abbrev cX5_findFewest : ByteArray := prog_7_method_18_code
def yX5_findFewest : MethodName := ⟨RX5, "findFewest", "(I)Z"⟩
abbrev cX5_fewestOf : ByteArray := prog_7_method_19_code
def yX5_fewestOf : MethodName := ⟨RX5, "fewestOf", "(II)I"⟩
abbrev cX5_mostNow : ByteArray := prog_7_method_20_code
def yX5_mostNow : MethodName := ⟨RX5, "mostNow", "()I"⟩
abbrev cX5_leastOf : ByteArray := prog_7_method_21_code
def yX5_leastOf : MethodName := ⟨RX5, "leastOf", "(I)I"⟩
abbrev cX5_mostOf : ByteArray := prog_7_method_22_code
def yX5_mostOf : MethodName := ⟨RX5, "mostOf", "(I)I"⟩
abbrev cX5_say : ByteArray := prog_7_method_23_code
def yX5_say : MethodName := ⟨RX5, "say", "(IIII)V"⟩
abbrev cX5_barSpan : ByteArray := prog_7_method_24_code
def yX5_barSpan : MethodName := ⟨RX5, "barSpan", "()I"⟩
abbrev cX5_barMend : ByteArray := prog_7_method_25_code
def yX5_barMend : MethodName := ⟨RX5, "barMend", "()I"⟩
abbrev cX5_barOf : ByteArray := prog_7_method_26_code
def yX5_barOf : MethodName := ⟨RX5, "barOf", "(I)I"⟩
abbrev cX5_doSpan : ByteArray := prog_7_method_27_code
def yX5_doSpan : MethodName := ⟨RX5, "doSpan", "()I"⟩
abbrev cX5_act : ByteArray := prog_7_method_28_code
def yX5_act : MethodName := ⟨RX5, "act", "(I)I"⟩
abbrev cX5_call : ByteArray := prog_7_method_29_code
def yX5_call : MethodName := ⟨RX5, "call", "(I)I"⟩
abbrev cX5_span : ByteArray := prog_7_method_30_code
def yX5_span : MethodName := ⟨RX5, "span", "(IIII)I"⟩
abbrev cX5_cuts : ByteArray := prog_7_method_31_code
def yX5_cuts : MethodName := ⟨RX5, "cuts", "()I"⟩
abbrev cX5_sets : ByteArray := prog_7_method_32_code
def yX5_sets : MethodName := ⟨RX5, "sets", "(II)I"⟩
abbrev cX5_pumps : ByteArray := prog_7_method_33_code
def yX5_pumps : MethodName := ⟨RX5, "pumps", "(I)I"⟩
abbrev cX5_bursts : ByteArray := prog_7_method_34_code
def yX5_bursts : MethodName := ⟨RX5, "bursts", "(I)I"⟩
abbrev cX5_mends : ByteArray := prog_7_method_35_code
def yX5_mends : MethodName := ⟨RX5, "mends", "(I)I"⟩
abbrev cX5_lays : ByteArray := prog_7_method_36_code
def yX5_lays : MethodName := ⟨RX5, "lays", "()I"⟩
abbrev cX5_of : ByteArray := prog_7_method_37_code
def yX5_of : MethodName := ⟨RX5, "of", "(II)I"⟩
abbrev cX5_loss : ByteArray := prog_7_method_38_code
def yX5_loss : MethodName := ⟨RX5, "loss", "(II)I"⟩
abbrev cX5_node : ByteArray := prog_7_method_39_code
def yX5_node : MethodName := ⟨RX5, "node", "(II)I"⟩
abbrev cX5_ofRun : ByteArray := prog_7_method_40_code
def yX5_ofRun : MethodName := ⟨RX5, "ofRun", "(I)I"⟩
abbrev cX5_run : ByteArray := prog_7_method_41_code
def yX5_run : MethodName := ⟨RX5, "run", "(I)I"⟩
abbrev cX5_fewest : ByteArray := prog_7_method_42_code
def yX5_fewest : MethodName := ⟨RX5, "fewest", "(II)I"⟩
abbrev cX5_most : ByteArray := prog_7_method_43_code
def yX5_most : MethodName := ⟨RX5, "most", "()I"⟩
abbrev cX5_countOf : ByteArray := prog_7_method_44_code
def yX5_countOf : MethodName := ⟨RX5, "countOf", "(I)I"⟩
abbrev cX5_count : ByteArray := prog_7_method_45_code
def yX5_count : MethodName := ⟨RX5, "count", "(I)I"⟩
abbrev cX5_areTimes : ByteArray := prog_7_method_46_code
def yX5_areTimes : MethodName := ⟨RX5, "areTimes", "(IIII)Z"⟩
abbrev cX5_bringsBy : ByteArray := prog_7_method_47_code
def yX5_bringsBy : MethodName := ⟨RX5, "bringsBy", "(IIII)I"⟩
abbrev cX5_shuttle : ByteArray := prog_7_method_48_code
def yX5_shuttle : MethodName := ⟨RX5, "shuttle", "(IIIII)I"⟩
abbrev cX5_tanks : ByteArray := prog_7_method_49_code
def yX5_tanks : MethodName := ⟨RX5, "tanks", "(IIIII)I"⟩
abbrev cX5_type : ByteArray := prog_7_method_50_code
def yX5_type : MethodName := ⟨RX5, "type", "(I)I"⟩
abbrev cX5_clear : ByteArray := prog_7_method_51_code
def yX5_clear : MethodName := ⟨RX5, "clear", "()I"⟩
abbrev cX5_skip : ByteArray := prog_7_method_52_code
def yX5_skip : MethodName := ⟨RX5, "skip", "()V"⟩
abbrev cX5_isFigure : ByteArray := prog_7_method_53_code
def yX5_isFigure : MethodName := ⟨RX5, "isFigure", "()Z"⟩
abbrev cX5_readNumber : ByteArray := prog_7_method_54_code
def yX5_readNumber : MethodName := ⟨RX5, "readNumber", "(IZ)Z"⟩
abbrev cX5_numbersOf : ByteArray := prog_7_method_55_code
def yX5_numbersOf : MethodName := ⟨RX5, "numbersOf", "(I)I"⟩
abbrev cX5_readOrder : ByteArray := prog_7_method_56_code
def yX5_readOrder : MethodName := ⟨RX5, "readOrder", "(I)Z"⟩
abbrev cX5_findFault : ByteArray := prog_7_method_57_code
def yX5_findFault : MethodName := ⟨RX5, "findFault", "()I"⟩
abbrev cX5_does : ByteArray := prog_7_method_58_code
def yX5_does : MethodName := ⟨RX5, "does", "()I"⟩
abbrev cX5_back : ByteArray := prog_7_method_59_code
def yX5_back : MethodName := ⟨RX5, "back", "()I"⟩
abbrev cX5_toldOf : ByteArray := prog_7_method_60_code
def yX5_toldOf : MethodName := ⟨RX5, "toldOf", "(I)I"⟩
abbrev cX5_told : ByteArray := prog_7_method_61_code
def yX5_told : MethodName := ⟨RX5, "told", "(I)I"⟩
abbrev cX5_digest : ByteArray := prog_7_method_62_code
def yX5_digest : MethodName := ⟨RX5, "digest", "()J"⟩
def RJ6 : String := "java/lang/Integer"
def TJ6 : u_T := fun k => match k with
  | _ => ("", "", "", false)
def tyJ6 : Nat → FieldType := fun k => match k with
  | _ => .int
abbrev wsJ60 : List Cond := u_ws RJ6 TJ6 0
theorem nmJ6 : ∀ a, a < 0 → ∀ b, b < 0 → a ≠ b → (TJ6 a).2.1 ≠ (TJ6 b).2.1 := by decide +kernel
theorem tyJ6_ok : ∀ k, k < 0 → parseFieldDescriptor (TJ6 k).2.2.1 = some (tyJ6 k) := by decide +kernel
abbrev cJ6_bitCount_0f7a4 : ByteArray := prog_8_method_49_code
def yJ6_bitCount_0f7a4 : MethodName := ⟨RJ6, "bitCount", "(I)I"⟩
def RJ9 : String := "java/lang/Math"
def TJ9 : u_T := fun k => match k with
  | _ => ("", "", "", false)
def tyJ9 : Nat → FieldType := fun k => match k with
  | _ => .int
abbrev wsJ90 : List Cond := u_ws RJ9 TJ9 0
theorem nmJ9 : ∀ a, a < 0 → ∀ b, b < 0 → a ≠ b → (TJ9 a).2.1 ≠ (TJ9 b).2.1 := by decide +kernel
theorem tyJ9_ok : ∀ k, k < 0 → parseFieldDescriptor (TJ9 k).2.2.1 = some (tyJ9 k) := by decide +kernel
abbrev cJ9_max_7cf53 : ByteArray := prog_9_method_65_code
def yJ9_max_7cf53 : MethodName := ⟨RJ9, "max", "(II)I"⟩
abbrev cJ9_min_7cf53 : ByteArray := prog_9_method_69_code
def yJ9_min_7cf53 : MethodName := ⟨RJ9, "min", "(II)I"⟩
def RJ10 : String := "java/lang/System"
def TJ10 : u_T := fun k => match k with
  | _ => ("", "", "", false)
def tyJ10 : Nat → FieldType := fun k => match k with
  | _ => .int
abbrev wsJ100 : List Cond := u_ws RJ10 TJ10 0
theorem nmJ10 : ∀ a, a < 0 → ∀ b, b < 0 → a ≠ b → (TJ10 a).2.1 ≠ (TJ10 b).2.1 := by decide +kernel
theorem tyJ10_ok : ∀ k, k < 0 → parseFieldDescriptor (TJ10 k).2.2.1 = some (tyJ10 k) := by decide +kernel
def RJ7 : String := "java/util/Arrays"
def TJ7 : u_T := fun k => match k with
  | _ => ("", "", "", false)
def tyJ7 : Nat → FieldType := fun k => match k with
  | _ => .int
abbrev wsJ70 : List Cond := u_ws RJ7 TJ7 0
theorem nmJ7 : ∀ a, a < 0 → ∀ b, b < 0 → a ≠ b → (TJ7 a).2.1 ≠ (TJ7 b).2.1 := by decide +kernel
theorem tyJ7_ok : ∀ k, k < 0 → parseFieldDescriptor (TJ7 k).2.2.1 = some (tyJ7 k) := by decide +kernel
abbrev cJ7_fill_53178 : ByteArray := prog_11_method_103_code
def yJ7_fill_53178 : MethodName := ⟨RJ7, "fill", "([II)V"⟩
def RL : String := "HoseSpansLaw"
abbrev cL_law : ByteArray := code
def yL_law : MethodName := ⟨RL, "law", "([I)Z"⟩
def wsX0_init : List Cond := .code yX0_init cX0_init 1 none :: ([.methodLink RX0 3 objectInit, .instanceMethod objectInit, .code objectInit ⟨#[0xb1]⟩ 1 none, .fieldLink RX0 9 "HoseSpans$Line" "spans" "I", .fieldLink RX0 15 "HoseSpans$Line" "pumps" "I", .arrayClass .int, .fieldLink RX0 18 "HoseSpans$Line" "facts" "[I", .fieldLink RX0 22 "HoseSpans$Line" "settings" "[I", .methodLink RX0 28 arraycopyName, .native arraycopyName, .static arraycopyName, .initialized "java/lang/System"] ++ wsX00)
def wsX0_copyFrom : List Cond := .code yX0_copyFrom cX0_copyFrom 2 none :: ([.fieldLink RX0 9 "HoseSpans$Line" "spans" "I", .fieldLink RX0 15 "HoseSpans$Line" "pumps" "I", .fieldLink RX0 18 "HoseSpans$Line" "facts" "[I", .methodLink RX0 28 arraycopyName, .native arraycopyName, .static arraycopyName, .initialized "java/lang/System", .fieldLink RX0 22 "HoseSpans$Line" "settings" "[I"] ++ wsX00)
def wsX4_within : List Cond := .code yX4_within cX4_within 3 (some .boolean) :: ([])
def wsX0_hasSpan : List Cond := .code yX0_hasSpan cX0_hasSpan 2 (some .boolean) :: ([.fieldLink RX0 9 "HoseSpans$Line" "spans" "I", .static yX4_within, .initialized RX4, .code yX4_within cX4_within 3 (some .boolean)] ++ wsX00)
def wsX0_hasNode : List Cond := .code yX0_hasNode cX0_hasNode 2 (some .boolean) :: ([.fieldLink RX0 9 "HoseSpans$Line" "spans" "I", .static yX4_within, .initialized RX4, .code yX4_within cX4_within 3 (some .boolean)] ++ wsX00)
def wsX0_hasPump : List Cond := .code yX0_hasPump cX0_hasPump 2 (some .boolean) :: ([.fieldLink RX0 15 "HoseSpans$Line" "pumps" "I"] ++ wsX00)
def wsX0_fact : List Cond := .code yX0_fact cX0_fact 3 (some .int) :: ([.fieldLink RX0 18 "HoseSpans$Line" "facts" "[I"] ++ wsX00)
def wsX0_setFact : List Cond := .code yX0_setFact cX0_setFact 4 none :: ([.fieldLink RX0 18 "HoseSpans$Line" "facts" "[I"] ++ wsX00)
def wsX0_addSpan : List Cond := .code yX0_addSpan cX0_addSpan 5 (some .int) :: ([.constant RX0 38 (-1000002), .fieldLink RX0 9 "HoseSpans$Line" "spans" "I", .constant RX0 39 (-1000004), .static yX4_within, .initialized RX4, .code yX4_within cX4_within 3 (some .boolean), .methodLink RX0 40 yX0_setFact, .instanceMethod yX0_setFact, .selects RX0 yX0_setFact yX0_setFact, .initialized RX0, .code yX0_setFact cX0_setFact 4 none, .fieldLink RX0 18 "HoseSpans$Line" "facts" "[I"] ++ wsX00)
def wsX0_cutLast : List Cond := .code yX0_cutLast cX0_cutLast 1 (some .int) :: ([.fieldLink RX0 9 "HoseSpans$Line" "spans" "I", .constant RX0 44 (-1000003), .fieldLink RX0 15 "HoseSpans$Line" "pumps" "I"] ++ wsX00)
def wsX0_changeSetting : List Cond := .code yX0_changeSetting cX0_changeSetting 4 (some .int) :: ([.constant RX0 38 (-1000002), .fieldLink RX0 22 "HoseSpans$Line" "settings" "[I", .static yX4_within, .initialized RX4, .code yX4_within cX4_within 3 (some .boolean)] ++ wsX00)
def wsJ6_bitCount_0f7a4 : List Cond := .code yJ6_bitCount_0f7a4 cJ6_bitCount_0f7a4 1 (some .int) :: ([.constant RJ6 265 (1431655765), .constant RJ6 266 (858993459), .constant RJ6 267 (252645135)])
def wsX0_turnPump : List Cond := .code yX0_turnPump cX0_turnPump 2 (some .int) :: ([.constant RX0 38 (-1000002), .fieldLink RX0 15 "HoseSpans$Line" "pumps" "I", .methodLink RX0 51 yX0_hasNode, .instanceMethod yX0_hasNode, .selects RX0 yX0_hasNode yX0_hasNode, .initialized RX0, .code yX0_hasNode cX0_hasNode 2 (some .boolean), .fieldLink RX0 9 "HoseSpans$Line" "spans" "I", .static yX4_within, .initialized RX4, .code yX4_within cX4_within 3 (some .boolean), .methodLink RX0 55 yJ6_bitCount_0f7a4, .static yJ6_bitCount_0f7a4, .initialized RJ6, .code yJ6_bitCount_0f7a4 cJ6_bitCount_0f7a4 1 (some .int), .constant RJ6 265 (1431655765), .constant RJ6 266 (858993459), .constant RJ6 267 (252645135)] ++ wsX00)
def wsX0_burstSpan : List Cond := .code yX0_burstSpan cX0_burstSpan 3 (some .int) :: ([.constant RX0 38 (-1000002), .methodLink RX0 61 yX0_hasSpan, .instanceMethod yX0_hasSpan, .selects RX0 yX0_hasSpan yX0_hasSpan, .initialized RX0, .code yX0_hasSpan cX0_hasSpan 2 (some .boolean), .fieldLink RX0 9 "HoseSpans$Line" "spans" "I", .static yX4_within, .initialized RX4, .code yX4_within cX4_within 3 (some .boolean), .methodLink RX0 64 yX0_fact, .instanceMethod yX0_fact, .selects RX0 yX0_fact yX0_fact, .code yX0_fact cX0_fact 3 (some .int), .fieldLink RX0 18 "HoseSpans$Line" "facts" "[I", .methodLink RX0 40 yX0_setFact, .instanceMethod yX0_setFact, .selects RX0 yX0_setFact yX0_setFact, .code yX0_setFact cX0_setFact 4 none] ++ wsX00)
def wsX0_hosesOf : List Cond := .code yX0_hosesOf cX0_hosesOf 2 (some .int) :: ([.methodLink RX0 64 yX0_fact, .instanceMethod yX0_fact, .selects RX0 yX0_fact yX0_fact, .initialized RX0, .code yX0_fact cX0_fact 3 (some .int), .fieldLink RX0 18 "HoseSpans$Line" "facts" "[I"] ++ wsX00)
def wsX0_mendSpan_r1 : List Cond := [Cond.constant RX0 38 (-1000002), Cond.fieldLink RX0 22 "HoseSpans$Line" "settings" "[I", Cond.constant RX0 44 (-1000003), Cond.methodLink RX0 61 yX0_hasSpan, Cond.instanceMethod yX0_hasSpan, Cond.selects RX0 yX0_hasSpan yX0_hasSpan, Cond.initialized RX0, Cond.code yX0_hasSpan cX0_hasSpan 2 (some .boolean), Cond.fieldLink RX0 9 "HoseSpans$Line" "spans" "I", Cond.static yX4_within, Cond.initialized RX4, Cond.code yX4_within cX4_within 3 (some .boolean), Cond.methodLink RX0 64 yX0_fact, Cond.instanceMethod yX0_fact, Cond.selects RX0 yX0_fact yX0_fact, Cond.code yX0_fact cX0_fact 3 (some .int), Cond.fieldLink RX0 18 "HoseSpans$Line" "facts" "[I", Cond.methodLink RX0 68 yX0_hosesOf, Cond.instanceMethod yX0_hosesOf, Cond.selects RX0 yX0_hosesOf yX0_hosesOf, Cond.code yX0_hosesOf cX0_hosesOf 2 (some .int), Cond.methodLink RX0 40 yX0_setFact, Cond.instanceMethod yX0_setFact, Cond.selects RX0 yX0_setFact yX0_setFact]
def wsX0_mendSpan_r2 : List Cond := [Cond.code yX0_setFact cX0_setFact 4 none]
def wsX0_mendSpan : List Cond := .code yX0_mendSpan cX0_mendSpan 2 (some .int) :: ((wsX0_mendSpan_r1 ++ wsX0_mendSpan_r2) ++ wsX00)
def wsX0_allLengths : List Cond := .code yX0_allLengths cX0_allLengths 3 (some .int) :: ([.fieldLink RX0 9 "HoseSpans$Line" "spans" "I", .methodLink RX0 68 yX0_hosesOf, .instanceMethod yX0_hosesOf, .selects RX0 yX0_hosesOf yX0_hosesOf, .initialized RX0, .code yX0_hosesOf cX0_hosesOf 2 (some .int), .methodLink RX0 64 yX0_fact, .instanceMethod yX0_fact, .selects RX0 yX0_fact yX0_fact, .code yX0_fact cX0_fact 3 (some .int), .fieldLink RX0 18 "HoseSpans$Line" "facts" "[I"] ++ wsX00)
def wsX0_burstSpans : List Cond := .code yX0_burstSpans cX0_burstSpans 3 (some .int) :: ([.fieldLink RX0 9 "HoseSpans$Line" "spans" "I", .methodLink RX0 64 yX0_fact, .instanceMethod yX0_fact, .selects RX0 yX0_fact yX0_fact, .initialized RX0, .code yX0_fact cX0_fact 3 (some .int), .fieldLink RX0 18 "HoseSpans$Line" "facts" "[I"] ++ wsX00)
def wsX0_lossBy : List Cond := .code yX0_lossBy cX0_lossBy 4 (some .int) :: ([.methodLink RX0 64 yX0_fact, .instanceMethod yX0_fact, .selects RX0 yX0_fact yX0_fact, .initialized RX0, .code yX0_fact cX0_fact 3 (some .int), .fieldLink RX0 18 "HoseSpans$Line" "facts" "[I"] ++ wsX00)
def wsX0_failureOf : List Cond := .code yX0_failureOf cX0_failureOf 4 (some .int) :: ([.methodLink RX0 64 yX0_fact, .instanceMethod yX0_fact, .selects RX0 yX0_fact yX0_fact, .initialized RX0, .code yX0_fact cX0_fact 3 (some .int), .fieldLink RX0 18 "HoseSpans$Line" "facts" "[I", .methodLink RX0 77 yX0_lossBy, .instanceMethod yX0_lossBy, .selects RX0 yX0_lossBy yX0_lossBy, .code yX0_lossBy cX0_lossBy 4 (some .int)] ++ wsX00)
def wsX1_init : List Cond := .code yX1_init cX1_init 1 none :: ([.methodLink RX1 3 objectInit, .instanceMethod objectInit, .code objectInit ⟨#[0xb1]⟩ 1 none, .arrayClass .int, .fieldLink RX1 9 "HoseSpans$PumpSearch" "best" "[I"] ++ wsX10)
def wsJ7_fill_53178 : List Cond := .code yJ7_fill_53178 cJ7_fill_53178 4 none :: ([])
def wsX1_leadOn : List Cond := .code yX1_leadOn cX1_leadOn 8 none :: ([.fieldLink RX1 31 "HoseSpans$Line" "spans" "I", .fieldLink RX1 22 "HoseSpans$Line" "settings" "[I", .fieldLink RX1 9 "HoseSpans$PumpSearch" "best" "[I", .methodLink RX1 35 Lib.Math.min.name, .static Lib.Math.min.name, .initialized "java/lang/Math", .code Lib.Math.min.name Lib.Math.min.code 2 (some .int), .methodLink RX1 41 yX0_failureOf, .instanceMethod yX0_failureOf, .selects RX0 yX0_failureOf yX0_failureOf, .initialized RX0, .code yX0_failureOf cX0_failureOf 4 (some .int), .methodLink RX0 64 yX0_fact, .instanceMethod yX0_fact, .selects RX0 yX0_fact yX0_fact, .code yX0_fact cX0_fact 3 (some .int), .fieldLink RX0 18 "HoseSpans$Line" "facts" "[I", .methodLink RX0 77 yX0_lossBy, .instanceMethod yX0_lossBy, .selects RX0 yX0_lossBy yX0_lossBy, .code yX0_lossBy cX0_lossBy 4 (some .int), .methodLink RX1 45 yX0_lossBy] ++ wsX00 ++ wsX10)
def wsX1_bestSet_r1 : List Cond := [Cond.fieldLink RX1 9 "HoseSpans$PumpSearch" "best" "[I", Cond.constant RX1 15 (1073741824), Cond.fieldLink RX1 22 "HoseSpans$Line" "settings" "[I", Cond.fieldLink RX1 31 "HoseSpans$Line" "spans" "I", Cond.methodLink RX1 16 yJ7_fill_53178, Cond.static yJ7_fill_53178, Cond.initialized RJ7, Cond.code yJ7_fill_53178 cJ7_fill_53178 4 none, Cond.methodLink RX1 27 yX1_leadOn, Cond.instanceMethod yX1_leadOn, Cond.selects RX1 yX1_leadOn yX1_leadOn, Cond.initialized RX1, Cond.code yX1_leadOn cX1_leadOn 8 none, Cond.methodLink RX1 35 Lib.Math.min.name, Cond.static Lib.Math.min.name, Cond.initialized "java/lang/Math", Cond.code Lib.Math.min.name Lib.Math.min.code 2 (some .int), Cond.methodLink RX1 41 yX0_failureOf, Cond.instanceMethod yX0_failureOf, Cond.selects RX0 yX0_failureOf yX0_failureOf, Cond.initialized RX0, Cond.code yX0_failureOf cX0_failureOf 4 (some .int), Cond.methodLink RX0 64 yX0_fact, Cond.instanceMethod yX0_fact]
def wsX1_bestSet_r2 : List Cond := [Cond.selects RX0 yX0_fact yX0_fact, Cond.code yX0_fact cX0_fact 3 (some .int), Cond.fieldLink RX0 18 "HoseSpans$Line" "facts" "[I", Cond.methodLink RX0 77 yX0_lossBy, Cond.instanceMethod yX0_lossBy, Cond.selects RX0 yX0_lossBy yX0_lossBy, Cond.code yX0_lossBy cX0_lossBy 4 (some .int), Cond.methodLink RX1 45 yX0_lossBy]
def wsX1_bestSet : List Cond := .code yX1_bestSet cX1_bestSet 4 (some .int) :: ((wsX1_bestSet_r1 ++ wsX1_bestSet_r2) ++ wsX10 ++ wsX00)
def wsX2_init : List Cond := .code yX2_init cX2_init 1 none :: ([.methodLink RX2 3 objectInit, .instanceMethod objectInit, .code objectInit ⟨#[0xb1]⟩ 1 none, .constant RX2 9 (-1000001), .fieldLink RX2 10 "HoseSpans$Run" "where" "I", .fieldLink RX2 16 "HoseSpans$Run" "how" "I", .arrayClass .int, .fieldLink RX2 19 "HoseSpans$Run" "in" "[I", .fieldLink RX2 23 "HoseSpans$Run" "behind" "[I"] ++ wsX20)
def wsX2_failureAt_r1 : List Cond := [Cond.fieldLink RX2 32 "HoseSpans$Line" "settings" "[I", Cond.methodLink RX2 52 Lib.Math.max.name, Cond.static Lib.Math.max.name, Cond.initialized "java/lang/Math", Cond.code Lib.Math.max.name Lib.Math.max.code 2 (some .int), Cond.fieldLink RX2 23 "HoseSpans$Run" "behind" "[I", Cond.fieldLink RX2 37 "HoseSpans$Line" "spans" "I", Cond.methodLink RX2 48 yX0_hasPump, Cond.instanceMethod yX0_hasPump, Cond.selects RX0 yX0_hasPump yX0_hasPump, Cond.initialized RX0, Cond.code yX0_hasPump cX0_hasPump 2 (some .boolean), Cond.fieldLink RX0 15 "HoseSpans$Line" "pumps" "I", Cond.methodLink RX2 57 yX0_failureOf, Cond.instanceMethod yX0_failureOf, Cond.selects RX0 yX0_failureOf yX0_failureOf, Cond.code yX0_failureOf cX0_failureOf 4 (some .int), Cond.methodLink RX0 64 yX0_fact, Cond.instanceMethod yX0_fact, Cond.selects RX0 yX0_fact yX0_fact, Cond.code yX0_fact cX0_fact 3 (some .int), Cond.fieldLink RX0 18 "HoseSpans$Line" "facts" "[I", Cond.methodLink RX0 77 yX0_lossBy, Cond.instanceMethod yX0_lossBy]
def wsX2_failureAt_r2 : List Cond := [Cond.selects RX0 yX0_lossBy yX0_lossBy, Cond.code yX0_lossBy cX0_lossBy 4 (some .int)]
def wsX2_failureAt : List Cond := .code yX2_failureAt cX2_failureAt 7 (some .int) :: ((wsX2_failureAt_r1 ++ wsX2_failureAt_r2) ++ wsX00 ++ wsX20)
def wsX2_follow_r1 : List Cond := [Cond.fieldLink RX2 19 "HoseSpans$Run" "in" "[I", Cond.constant RX2 9 (-1000001), Cond.fieldLink RX2 23 "HoseSpans$Run" "behind" "[I", Cond.fieldLink RX2 10 "HoseSpans$Run" "where" "I", Cond.fieldLink RX2 16 "HoseSpans$Run" "how" "I", Cond.fieldLink RX2 32 "HoseSpans$Line" "settings" "[I", Cond.fieldLink RX2 37 "HoseSpans$Line" "spans" "I", Cond.methodLink RX2 26 yJ7_fill_53178, Cond.static yJ7_fill_53178, Cond.initialized RJ7, Cond.code yJ7_fill_53178 cJ7_fill_53178 4 none, Cond.methodLink RX2 40 yX2_failureAt, Cond.instanceMethod yX2_failureAt, Cond.selects RX2 yX2_failureAt yX2_failureAt, Cond.initialized RX2, Cond.code yX2_failureAt cX2_failureAt 7 (some .int), Cond.methodLink RX2 52 Lib.Math.max.name, Cond.static Lib.Math.max.name, Cond.initialized "java/lang/Math", Cond.code Lib.Math.max.name Lib.Math.max.code 2 (some .int), Cond.methodLink RX2 48 yX0_hasPump, Cond.instanceMethod yX0_hasPump, Cond.selects RX0 yX0_hasPump yX0_hasPump, Cond.initialized RX0]
def wsX2_follow_r2 : List Cond := [Cond.code yX0_hasPump cX0_hasPump 2 (some .boolean), Cond.fieldLink RX0 15 "HoseSpans$Line" "pumps" "I", Cond.methodLink RX2 57 yX0_failureOf, Cond.instanceMethod yX0_failureOf, Cond.selects RX0 yX0_failureOf yX0_failureOf, Cond.code yX0_failureOf cX0_failureOf 4 (some .int), Cond.methodLink RX0 64 yX0_fact, Cond.instanceMethod yX0_fact, Cond.selects RX0 yX0_fact yX0_fact, Cond.code yX0_fact cX0_fact 3 (some .int), Cond.fieldLink RX0 18 "HoseSpans$Line" "facts" "[I", Cond.methodLink RX0 77 yX0_lossBy, Cond.instanceMethod yX0_lossBy, Cond.selects RX0 yX0_lossBy yX0_lossBy, Cond.code yX0_lossBy cX0_lossBy 4 (some .int), Cond.methodLink RX2 44 yX0_lossBy]
def wsX2_follow : List Cond := .code yX2_follow cX2_follow 5 none :: ((wsX2_follow_r1 ++ wsX2_follow_r2) ++ wsX20 ++ wsX00)
def wsX3_init : List Cond := .code yX3_init cX3_init 1 none :: ([.methodLink RX3 3 objectInit, .instanceMethod objectInit, .code objectInit ⟨#[0xb1]⟩ 1 none, .fieldLink RX3 9 "HoseSpans$Text" "length" "I", .fieldLink RX3 15 "HoseSpans$Text" "orders" "I", .fieldLink RX3 18 "HoseSpans$Text" "place" "I", .arrayClass .byte, .fieldLink RX3 21 "HoseSpans$Text" "letters" "[B", .fieldLink RX3 25 "HoseSpans$Text" "bytes" "[B", .arrayClass .int, .fieldLink RX3 28 "HoseSpans$Text" "numbers" "[I"] ++ wsX30)
def wsX3_put : List Cond := .code yX3_put cX3_put 2 none :: ([.fieldLink RX3 25 "HoseSpans$Text" "bytes" "[B", .fieldLink RX3 9 "HoseSpans$Text" "length" "I"] ++ wsX30)
def wsX3_number : List Cond := .code yX3_number cX3_number 3 (some .int) :: ([.fieldLink RX3 28 "HoseSpans$Text" "numbers" "[I"] ++ wsX30)
def wsX3_skipBlanks : List Cond := .code yX3_skipBlanks cX3_skipBlanks 1 none :: ([.fieldLink RX3 18 "HoseSpans$Text" "place" "I", .fieldLink RX3 9 "HoseSpans$Text" "length" "I", .fieldLink RX3 25 "HoseSpans$Text" "bytes" "[B"] ++ wsX30)
def wsX3_byteHere : List Cond := .code yX3_byteHere cX3_byteHere 1 (some .int) :: ([.fieldLink RX3 18 "HoseSpans$Text" "place" "I", .fieldLink RX3 9 "HoseSpans$Text" "length" "I", .fieldLink RX3 25 "HoseSpans$Text" "bytes" "[B"] ++ wsX30)
def wsX3_numbersOf : List Cond := .code yX3_numbersOf cX3_numbersOf 1 (some .int) :: ([])
def wsX3_isFigureHere : List Cond := .code yX3_isFigureHere cX3_isFigureHere 1 (some .boolean) :: ([.methodLink RX3 39 yX3_byteHere, .instanceMethod yX3_byteHere, .selects RX3 yX3_byteHere yX3_byteHere, .initialized RX3, .code yX3_byteHere cX3_byteHere 1 (some .int), .fieldLink RX3 18 "HoseSpans$Text" "place" "I", .fieldLink RX3 9 "HoseSpans$Text" "length" "I", .fieldLink RX3 25 "HoseSpans$Text" "bytes" "[B", .static yX4_within, .initialized RX4, .code yX4_within cX4_within 3 (some .boolean)] ++ wsX30)
def wsX3_takesNumber : List Cond := .code yX3_takesNumber cX3_takesNumber 6 (some .boolean) :: ([.fieldLink RX3 18 "HoseSpans$Text" "place" "I", .fieldLink RX3 28 "HoseSpans$Text" "numbers" "[I", .fieldLink RX3 15 "HoseSpans$Text" "orders" "I", .methodLink RX3 39 yX3_byteHere, .instanceMethod yX3_byteHere, .selects RX3 yX3_byteHere yX3_byteHere, .initialized RX3, .code yX3_byteHere cX3_byteHere 1 (some .int), .fieldLink RX3 9 "HoseSpans$Text" "length" "I", .fieldLink RX3 25 "HoseSpans$Text" "bytes" "[B", .methodLink RX3 51 yX3_isFigureHere, .instanceMethod yX3_isFigureHere, .selects RX3 yX3_isFigureHere yX3_isFigureHere, .code yX3_isFigureHere cX3_isFigureHere 1 (some .boolean), .static yX4_within, .initialized RX4, .code yX4_within cX4_within 3 (some .boolean)] ++ wsX30)
def wsX3_takesOrder_r1 : List Cond := [Cond.fieldLink RX3 21 "HoseSpans$Text" "letters" "[B", Cond.fieldLink RX3 15 "HoseSpans$Text" "orders" "I", Cond.fieldLink RX3 18 "HoseSpans$Text" "place" "I", Cond.methodLink RX3 39 yX3_byteHere, Cond.instanceMethod yX3_byteHere, Cond.selects RX3 yX3_byteHere yX3_byteHere, Cond.initialized RX3, Cond.code yX3_byteHere cX3_byteHere 1 (some .int), Cond.fieldLink RX3 9 "HoseSpans$Text" "length" "I", Cond.fieldLink RX3 25 "HoseSpans$Text" "bytes" "[B", Cond.methodLink RX3 43 yX3_numbersOf, Cond.static yX3_numbersOf, Cond.code yX3_numbersOf cX3_numbersOf 1 (some .int), Cond.methodLink RX3 32 yX3_skipBlanks, Cond.instanceMethod yX3_skipBlanks, Cond.selects RX3 yX3_skipBlanks yX3_skipBlanks, Cond.code yX3_skipBlanks cX3_skipBlanks 1 none, Cond.methodLink RX3 47 yX3_takesNumber, Cond.instanceMethod yX3_takesNumber, Cond.selects RX3 yX3_takesNumber yX3_takesNumber, Cond.code yX3_takesNumber cX3_takesNumber 6 (some .boolean), Cond.fieldLink RX3 28 "HoseSpans$Text" "numbers" "[I", Cond.methodLink RX3 51 yX3_isFigureHere, Cond.instanceMethod yX3_isFigureHere]
def wsX3_takesOrder_r2 : List Cond := [Cond.selects RX3 yX3_isFigureHere yX3_isFigureHere, Cond.code yX3_isFigureHere cX3_isFigureHere 1 (some .boolean), Cond.static yX4_within, Cond.initialized RX4, Cond.code yX4_within cX4_within 3 (some .boolean)]
def wsX3_takesOrder : List Cond := .code yX3_takesOrder cX3_takesOrder 4 (some .boolean) :: ((wsX3_takesOrder_r1 ++ wsX3_takesOrder_r2) ++ wsX30)
def wsX3_isRead_r1 : List Cond := [Cond.fieldLink RX3 15 "HoseSpans$Text" "orders" "I", Cond.fieldLink RX3 18 "HoseSpans$Text" "place" "I", Cond.fieldLink RX3 9 "HoseSpans$Text" "length" "I", Cond.methodLink RX3 32 yX3_skipBlanks, Cond.instanceMethod yX3_skipBlanks, Cond.selects RX3 yX3_skipBlanks yX3_skipBlanks, Cond.initialized RX3, Cond.code yX3_skipBlanks cX3_skipBlanks 1 none, Cond.fieldLink RX3 25 "HoseSpans$Text" "bytes" "[B", Cond.methodLink RX3 35 yX3_takesOrder, Cond.instanceMethod yX3_takesOrder, Cond.selects RX3 yX3_takesOrder yX3_takesOrder, Cond.code yX3_takesOrder cX3_takesOrder 4 (some .boolean), Cond.fieldLink RX3 21 "HoseSpans$Text" "letters" "[B", Cond.methodLink RX3 39 yX3_byteHere, Cond.instanceMethod yX3_byteHere, Cond.selects RX3 yX3_byteHere yX3_byteHere, Cond.code yX3_byteHere cX3_byteHere 1 (some .int), Cond.methodLink RX3 43 yX3_numbersOf, Cond.static yX3_numbersOf, Cond.code yX3_numbersOf cX3_numbersOf 1 (some .int), Cond.methodLink RX3 47 yX3_takesNumber, Cond.instanceMethod yX3_takesNumber, Cond.selects RX3 yX3_takesNumber yX3_takesNumber]
def wsX3_isRead_r2 : List Cond := [Cond.code yX3_takesNumber cX3_takesNumber 6 (some .boolean), Cond.fieldLink RX3 28 "HoseSpans$Text" "numbers" "[I", Cond.methodLink RX3 51 yX3_isFigureHere, Cond.instanceMethod yX3_isFigureHere, Cond.selects RX3 yX3_isFigureHere yX3_isFigureHere, Cond.code yX3_isFigureHere cX3_isFigureHere 1 (some .boolean), Cond.static yX4_within, Cond.initialized RX4, Cond.code yX4_within cX4_within 3 (some .boolean)]
def wsX3_isRead : List Cond := .code yX3_isRead cX3_isRead 1 (some .boolean) :: ((wsX3_isRead_r1 ++ wsX3_isRead_r2) ++ wsX30)
def wsX4_init_r1 : List Cond := [Cond.methodLink RX4 3 objectInit, Cond.instanceMethod objectInit, Cond.code objectInit ⟨#[0xb1]⟩ 1 none, Cond.classLink RX4 9 RX0, Cond.instantiable RX0 4, Cond.initialized RX0, Cond.fieldLink RX4 12 "HoseSpans" "line" "LHoseSpans$Line;", Cond.fieldLink RX4 16 "HoseSpans" "before" "LHoseSpans$Line;", Cond.fieldLink RX4 19 "HoseSpans" "states" "[LHoseSpans$Line;", Cond.fieldLink RX4 23 "HoseSpans" "nextState" "I", Cond.fieldLink RX4 27 "HoseSpans" "statesLeft" "I", Cond.fieldLink RX4 30 "HoseSpans" "refusedBad" "I", Cond.fieldLink RX4 33 "HoseSpans" "refusedNo" "I", Cond.fieldLink RX4 36 "HoseSpans" "refusedFull" "I", Cond.classLink RX4 39 RX3, Cond.instantiable RX3 6, Cond.initialized RX3, Cond.fieldLink RX4 42 "HoseSpans" "text" "LHoseSpans$Text;", Cond.classLink RX4 46 RX2, Cond.instantiable RX2 4, Cond.initialized RX2, Cond.fieldLink RX4 49 "HoseSpans" "water" "LHoseSpans$Run;", Cond.classLink RX4 53 RX1, Cond.instantiable RX1 1]
def wsX4_init_r2 : List Cond := [Cond.initialized RX1, Cond.fieldLink RX4 56 "HoseSpans" "search" "LHoseSpans$PumpSearch;", Cond.methodLink RX4 11 yX0_init, Cond.instanceMethod yX0_init, Cond.code yX0_init cX0_init 1 none, Cond.methodLink RX0 3 objectInit, Cond.fieldLink RX0 9 "HoseSpans$Line" "spans" "I", Cond.fieldLink RX0 15 "HoseSpans$Line" "pumps" "I", Cond.arrayClass .int, Cond.fieldLink RX0 18 "HoseSpans$Line" "facts" "[I", Cond.fieldLink RX0 22 "HoseSpans$Line" "settings" "[I", Cond.methodLink RX0 28 arraycopyName, Cond.native arraycopyName, Cond.static arraycopyName, Cond.initialized "java/lang/System", Cond.instanceMethod yX3_init, Cond.code yX3_init cX3_init 1 none, Cond.methodLink RX3 3 objectInit, Cond.fieldLink RX3 9 "HoseSpans$Text" "length" "I", Cond.fieldLink RX3 15 "HoseSpans$Text" "orders" "I", Cond.fieldLink RX3 18 "HoseSpans$Text" "place" "I", Cond.arrayClass .byte, Cond.fieldLink RX3 21 "HoseSpans$Text" "letters" "[B", Cond.fieldLink RX3 25 "HoseSpans$Text" "bytes" "[B"]
def wsX4_init_r3 : List Cond := [Cond.fieldLink RX3 28 "HoseSpans$Text" "numbers" "[I", Cond.instanceMethod yX2_init, Cond.code yX2_init cX2_init 1 none, Cond.methodLink RX2 3 objectInit, Cond.constant RX2 9 (-1000001), Cond.fieldLink RX2 10 "HoseSpans$Run" "where" "I", Cond.fieldLink RX2 16 "HoseSpans$Run" "how" "I", Cond.fieldLink RX2 19 "HoseSpans$Run" "in" "[I", Cond.fieldLink RX2 23 "HoseSpans$Run" "behind" "[I", Cond.instanceMethod yX1_init, Cond.code yX1_init cX1_init 1 none, Cond.methodLink RX1 3 objectInit, Cond.fieldLink RX1 9 "HoseSpans$PumpSearch" "best" "[I"]
def wsX4_init : List Cond := .code yX4_init cX4_init 2 none :: ((wsX4_init_r1 ++ (wsX4_init_r2 ++ wsX4_init_r3)) ++ wsX00 ++ wsX40 ++ wsX30 ++ wsX20 ++ wsX10)
def wsX4_keepBefore : List Cond := .code yX4_keepBefore cX4_keepBefore 1 none :: ([.fieldLink RX4 16 "HoseSpans" "before" "LHoseSpans$Line;", .fieldLink RX4 12 "HoseSpans" "line" "LHoseSpans$Line;", .methodLink RX4 191 yX0_copyFrom, .instanceMethod yX0_copyFrom, .selects RX0 yX0_copyFrom yX0_copyFrom, .initialized RX0, .code yX0_copyFrom cX0_copyFrom 2 none, .fieldLink RX0 9 "HoseSpans$Line" "spans" "I", .fieldLink RX0 15 "HoseSpans$Line" "pumps" "I", .fieldLink RX0 18 "HoseSpans$Line" "facts" "[I", .methodLink RX0 28 arraycopyName, .native arraycopyName, .static arraycopyName, .initialized "java/lang/System", .fieldLink RX0 22 "HoseSpans$Line" "settings" "[I"] ++ wsX40 ++ wsX00)
def wsX4_isRefusal : List Cond := .code yX4_isRefusal cX4_isRefusal 1 (some .boolean) :: ([.constant RX4 118 (-1000002), .constant RX4 97 (-1000003), .constant RX4 170 (-1000004)])
def wsX4_counted : List Cond := .code yX4_counted cX4_counted 2 (some .int) :: ([.fieldLink RX4 30 "HoseSpans" "refusedBad" "I", .fieldLink RX4 33 "HoseSpans" "refusedNo" "I", .fieldLink RX4 36 "HoseSpans" "refusedFull" "I"] ++ wsX40)
def wsX4_settled_r1 : List Cond := [Cond.fieldLink RX4 19 "HoseSpans" "states" "[LHoseSpans$Line;", Cond.fieldLink RX4 23 "HoseSpans" "nextState" "I", Cond.fieldLink RX4 16 "HoseSpans" "before" "LHoseSpans$Line;", Cond.fieldLink RX4 27 "HoseSpans" "statesLeft" "I", Cond.methodLink RX4 223 Lib.Math.min.name, Cond.static Lib.Math.min.name, Cond.initialized "java/lang/Math", Cond.code Lib.Math.min.name Lib.Math.min.code 2 (some .int), Cond.methodLink RX4 188 yX4_isRefusal, Cond.static yX4_isRefusal, Cond.initialized RX4, Cond.code yX4_isRefusal cX4_isRefusal 1 (some .boolean), Cond.constant RX4 118 (-1000002), Cond.constant RX4 97 (-1000003), Cond.constant RX4 170 (-1000004), Cond.methodLink RX4 98 yX4_counted, Cond.instanceMethod yX4_counted, Cond.selects RX4 yX4_counted yX4_counted, Cond.code yX4_counted cX4_counted 2 (some .int), Cond.fieldLink RX4 30 "HoseSpans" "refusedBad" "I", Cond.fieldLink RX4 33 "HoseSpans" "refusedNo" "I", Cond.fieldLink RX4 36 "HoseSpans" "refusedFull" "I", Cond.methodLink RX4 191 yX0_copyFrom, Cond.instanceMethod yX0_copyFrom]
def wsX4_settled_r2 : List Cond := [Cond.selects RX0 yX0_copyFrom yX0_copyFrom, Cond.initialized RX0, Cond.code yX0_copyFrom cX0_copyFrom 2 none, Cond.fieldLink RX0 9 "HoseSpans$Line" "spans" "I", Cond.fieldLink RX0 15 "HoseSpans$Line" "pumps" "I", Cond.fieldLink RX0 18 "HoseSpans$Line" "facts" "[I", Cond.methodLink RX0 28 arraycopyName, Cond.native arraycopyName, Cond.static arraycopyName, Cond.initialized "java/lang/System", Cond.fieldLink RX0 22 "HoseSpans$Line" "settings" "[I"]
def wsX4_settled : List Cond := .code yX4_settled cX4_settled 2 (some .int) :: ((wsX4_settled_r1 ++ wsX4_settled_r2) ++ wsX40 ++ wsX00)
def wsX4_span_r1 : List Cond := [Cond.fieldLink RX4 12 "HoseSpans" "line" "LHoseSpans$Line;", Cond.methodLink RX4 60 yX4_keepBefore, Cond.instanceMethod yX4_keepBefore, Cond.selects RX4 yX4_keepBefore yX4_keepBefore, Cond.initialized RX4, Cond.code yX4_keepBefore cX4_keepBefore 1 none, Cond.fieldLink RX4 16 "HoseSpans" "before" "LHoseSpans$Line;", Cond.methodLink RX4 191 yX0_copyFrom, Cond.instanceMethod yX0_copyFrom, Cond.selects RX0 yX0_copyFrom yX0_copyFrom, Cond.initialized RX0, Cond.code yX0_copyFrom cX0_copyFrom 2 none, Cond.fieldLink RX0 9 "HoseSpans$Line" "spans" "I", Cond.fieldLink RX0 15 "HoseSpans$Line" "pumps" "I", Cond.fieldLink RX0 18 "HoseSpans$Line" "facts" "[I", Cond.methodLink RX0 28 arraycopyName, Cond.native arraycopyName, Cond.static arraycopyName, Cond.initialized "java/lang/System", Cond.fieldLink RX0 22 "HoseSpans$Line" "settings" "[I", Cond.methodLink RX4 63 yX0_addSpan, Cond.instanceMethod yX0_addSpan, Cond.selects RX0 yX0_addSpan yX0_addSpan, Cond.code yX0_addSpan cX0_addSpan 5 (some .int)]
def wsX4_span_r2 : List Cond := [Cond.constant RX0 38 (-1000002), Cond.constant RX0 39 (-1000004), Cond.static yX4_within, Cond.code yX4_within cX4_within 3 (some .boolean), Cond.methodLink RX0 40 yX0_setFact, Cond.instanceMethod yX0_setFact, Cond.selects RX0 yX0_setFact yX0_setFact, Cond.code yX0_setFact cX0_setFact 4 none, Cond.methodLink RX4 67 yX4_settled, Cond.instanceMethod yX4_settled, Cond.selects RX4 yX4_settled yX4_settled, Cond.code yX4_settled cX4_settled 2 (some .int), Cond.fieldLink RX4 19 "HoseSpans" "states" "[LHoseSpans$Line;", Cond.fieldLink RX4 23 "HoseSpans" "nextState" "I", Cond.fieldLink RX4 27 "HoseSpans" "statesLeft" "I", Cond.methodLink RX4 223 Lib.Math.min.name, Cond.static Lib.Math.min.name, Cond.initialized "java/lang/Math", Cond.code Lib.Math.min.name Lib.Math.min.code 2 (some .int), Cond.methodLink RX4 188 yX4_isRefusal, Cond.static yX4_isRefusal, Cond.code yX4_isRefusal cX4_isRefusal 1 (some .boolean), Cond.constant RX4 118 (-1000002), Cond.constant RX4 97 (-1000003)]
def wsX4_span_r3 : List Cond := [Cond.constant RX4 170 (-1000004), Cond.methodLink RX4 98 yX4_counted, Cond.instanceMethod yX4_counted, Cond.selects RX4 yX4_counted yX4_counted, Cond.code yX4_counted cX4_counted 2 (some .int), Cond.fieldLink RX4 30 "HoseSpans" "refusedBad" "I", Cond.fieldLink RX4 33 "HoseSpans" "refusedNo" "I", Cond.fieldLink RX4 36 "HoseSpans" "refusedFull" "I"]
def wsX4_span : List Cond := .code yX4_span cX4_span 5 (some .int) :: ((wsX4_span_r1 ++ (wsX4_span_r2 ++ wsX4_span_r3)) ++ wsX40 ++ wsX00)
def wsX4_cuts_r1 : List Cond := [Cond.fieldLink RX4 12 "HoseSpans" "line" "LHoseSpans$Line;", Cond.methodLink RX4 60 yX4_keepBefore, Cond.instanceMethod yX4_keepBefore, Cond.selects RX4 yX4_keepBefore yX4_keepBefore, Cond.initialized RX4, Cond.code yX4_keepBefore cX4_keepBefore 1 none, Cond.fieldLink RX4 16 "HoseSpans" "before" "LHoseSpans$Line;", Cond.methodLink RX4 191 yX0_copyFrom, Cond.instanceMethod yX0_copyFrom, Cond.selects RX0 yX0_copyFrom yX0_copyFrom, Cond.initialized RX0, Cond.code yX0_copyFrom cX0_copyFrom 2 none, Cond.fieldLink RX0 9 "HoseSpans$Line" "spans" "I", Cond.fieldLink RX0 15 "HoseSpans$Line" "pumps" "I", Cond.fieldLink RX0 18 "HoseSpans$Line" "facts" "[I", Cond.methodLink RX0 28 arraycopyName, Cond.native arraycopyName, Cond.static arraycopyName, Cond.initialized "java/lang/System", Cond.fieldLink RX0 22 "HoseSpans$Line" "settings" "[I", Cond.methodLink RX4 71 yX0_cutLast, Cond.instanceMethod yX0_cutLast, Cond.selects RX0 yX0_cutLast yX0_cutLast, Cond.code yX0_cutLast cX0_cutLast 1 (some .int)]
def wsX4_cuts_r2 : List Cond := [Cond.constant RX0 44 (-1000003), Cond.methodLink RX4 67 yX4_settled, Cond.instanceMethod yX4_settled, Cond.selects RX4 yX4_settled yX4_settled, Cond.code yX4_settled cX4_settled 2 (some .int), Cond.fieldLink RX4 19 "HoseSpans" "states" "[LHoseSpans$Line;", Cond.fieldLink RX4 23 "HoseSpans" "nextState" "I", Cond.fieldLink RX4 27 "HoseSpans" "statesLeft" "I", Cond.methodLink RX4 223 Lib.Math.min.name, Cond.static Lib.Math.min.name, Cond.initialized "java/lang/Math", Cond.code Lib.Math.min.name Lib.Math.min.code 2 (some .int), Cond.methodLink RX4 188 yX4_isRefusal, Cond.static yX4_isRefusal, Cond.code yX4_isRefusal cX4_isRefusal 1 (some .boolean), Cond.constant RX4 118 (-1000002), Cond.constant RX4 97 (-1000003), Cond.constant RX4 170 (-1000004), Cond.methodLink RX4 98 yX4_counted, Cond.instanceMethod yX4_counted, Cond.selects RX4 yX4_counted yX4_counted, Cond.code yX4_counted cX4_counted 2 (some .int), Cond.fieldLink RX4 30 "HoseSpans" "refusedBad" "I", Cond.fieldLink RX4 33 "HoseSpans" "refusedNo" "I"]
def wsX4_cuts_r3 : List Cond := [Cond.fieldLink RX4 36 "HoseSpans" "refusedFull" "I"]
def wsX4_cuts : List Cond := .code yX4_cuts cX4_cuts 1 (some .int) :: ((wsX4_cuts_r1 ++ (wsX4_cuts_r2 ++ wsX4_cuts_r3)) ++ wsX40 ++ wsX00)
def wsX4_sets_r1 : List Cond := [Cond.fieldLink RX4 12 "HoseSpans" "line" "LHoseSpans$Line;", Cond.methodLink RX4 60 yX4_keepBefore, Cond.instanceMethod yX4_keepBefore, Cond.selects RX4 yX4_keepBefore yX4_keepBefore, Cond.initialized RX4, Cond.code yX4_keepBefore cX4_keepBefore 1 none, Cond.fieldLink RX4 16 "HoseSpans" "before" "LHoseSpans$Line;", Cond.methodLink RX4 191 yX0_copyFrom, Cond.instanceMethod yX0_copyFrom, Cond.selects RX0 yX0_copyFrom yX0_copyFrom, Cond.initialized RX0, Cond.code yX0_copyFrom cX0_copyFrom 2 none, Cond.fieldLink RX0 9 "HoseSpans$Line" "spans" "I", Cond.fieldLink RX0 15 "HoseSpans$Line" "pumps" "I", Cond.fieldLink RX0 18 "HoseSpans$Line" "facts" "[I", Cond.methodLink RX0 28 arraycopyName, Cond.native arraycopyName, Cond.static arraycopyName, Cond.initialized "java/lang/System", Cond.fieldLink RX0 22 "HoseSpans$Line" "settings" "[I", Cond.methodLink RX4 75 yX0_changeSetting, Cond.instanceMethod yX0_changeSetting, Cond.selects RX0 yX0_changeSetting yX0_changeSetting, Cond.code yX0_changeSetting cX0_changeSetting 4 (some .int)]
def wsX4_sets_r2 : List Cond := [Cond.constant RX0 38 (-1000002), Cond.static yX4_within, Cond.code yX4_within cX4_within 3 (some .boolean), Cond.methodLink RX4 67 yX4_settled, Cond.instanceMethod yX4_settled, Cond.selects RX4 yX4_settled yX4_settled, Cond.code yX4_settled cX4_settled 2 (some .int), Cond.fieldLink RX4 19 "HoseSpans" "states" "[LHoseSpans$Line;", Cond.fieldLink RX4 23 "HoseSpans" "nextState" "I", Cond.fieldLink RX4 27 "HoseSpans" "statesLeft" "I", Cond.methodLink RX4 223 Lib.Math.min.name, Cond.static Lib.Math.min.name, Cond.initialized "java/lang/Math", Cond.code Lib.Math.min.name Lib.Math.min.code 2 (some .int), Cond.methodLink RX4 188 yX4_isRefusal, Cond.static yX4_isRefusal, Cond.code yX4_isRefusal cX4_isRefusal 1 (some .boolean), Cond.constant RX4 118 (-1000002), Cond.constant RX4 97 (-1000003), Cond.constant RX4 170 (-1000004), Cond.methodLink RX4 98 yX4_counted, Cond.instanceMethod yX4_counted, Cond.selects RX4 yX4_counted yX4_counted, Cond.code yX4_counted cX4_counted 2 (some .int)]
def wsX4_sets_r3 : List Cond := [Cond.fieldLink RX4 30 "HoseSpans" "refusedBad" "I", Cond.fieldLink RX4 33 "HoseSpans" "refusedNo" "I", Cond.fieldLink RX4 36 "HoseSpans" "refusedFull" "I"]
def wsX4_sets : List Cond := .code yX4_sets cX4_sets 3 (some .int) :: ((wsX4_sets_r1 ++ (wsX4_sets_r2 ++ wsX4_sets_r3)) ++ wsX40 ++ wsX00)
def wsX4_pumps_r1 : List Cond := [Cond.fieldLink RX4 12 "HoseSpans" "line" "LHoseSpans$Line;", Cond.methodLink RX4 60 yX4_keepBefore, Cond.instanceMethod yX4_keepBefore, Cond.selects RX4 yX4_keepBefore yX4_keepBefore, Cond.initialized RX4, Cond.code yX4_keepBefore cX4_keepBefore 1 none, Cond.fieldLink RX4 16 "HoseSpans" "before" "LHoseSpans$Line;", Cond.methodLink RX4 191 yX0_copyFrom, Cond.instanceMethod yX0_copyFrom, Cond.selects RX0 yX0_copyFrom yX0_copyFrom, Cond.initialized RX0, Cond.code yX0_copyFrom cX0_copyFrom 2 none, Cond.fieldLink RX0 9 "HoseSpans$Line" "spans" "I", Cond.fieldLink RX0 15 "HoseSpans$Line" "pumps" "I", Cond.fieldLink RX0 18 "HoseSpans$Line" "facts" "[I", Cond.methodLink RX0 28 arraycopyName, Cond.native arraycopyName, Cond.static arraycopyName, Cond.initialized "java/lang/System", Cond.fieldLink RX0 22 "HoseSpans$Line" "settings" "[I", Cond.methodLink RX4 79 yX0_turnPump, Cond.instanceMethod yX0_turnPump, Cond.selects RX0 yX0_turnPump yX0_turnPump, Cond.code yX0_turnPump cX0_turnPump 2 (some .int)]
def wsX4_pumps_r2 : List Cond := [Cond.constant RX0 38 (-1000002), Cond.methodLink RX0 51 yX0_hasNode, Cond.instanceMethod yX0_hasNode, Cond.selects RX0 yX0_hasNode yX0_hasNode, Cond.code yX0_hasNode cX0_hasNode 2 (some .boolean), Cond.static yX4_within, Cond.code yX4_within cX4_within 3 (some .boolean), Cond.methodLink RX0 55 yJ6_bitCount_0f7a4, Cond.static yJ6_bitCount_0f7a4, Cond.initialized RJ6, Cond.code yJ6_bitCount_0f7a4 cJ6_bitCount_0f7a4 1 (some .int), Cond.constant RJ6 265 (1431655765), Cond.constant RJ6 266 (858993459), Cond.constant RJ6 267 (252645135), Cond.methodLink RX4 67 yX4_settled, Cond.instanceMethod yX4_settled, Cond.selects RX4 yX4_settled yX4_settled, Cond.code yX4_settled cX4_settled 2 (some .int), Cond.fieldLink RX4 19 "HoseSpans" "states" "[LHoseSpans$Line;", Cond.fieldLink RX4 23 "HoseSpans" "nextState" "I", Cond.fieldLink RX4 27 "HoseSpans" "statesLeft" "I", Cond.methodLink RX4 223 Lib.Math.min.name, Cond.static Lib.Math.min.name, Cond.initialized "java/lang/Math"]
def wsX4_pumps_r3 : List Cond := [Cond.code Lib.Math.min.name Lib.Math.min.code 2 (some .int), Cond.methodLink RX4 188 yX4_isRefusal, Cond.static yX4_isRefusal, Cond.code yX4_isRefusal cX4_isRefusal 1 (some .boolean), Cond.constant RX4 118 (-1000002), Cond.constant RX4 97 (-1000003), Cond.constant RX4 170 (-1000004), Cond.methodLink RX4 98 yX4_counted, Cond.instanceMethod yX4_counted, Cond.selects RX4 yX4_counted yX4_counted, Cond.code yX4_counted cX4_counted 2 (some .int), Cond.fieldLink RX4 30 "HoseSpans" "refusedBad" "I", Cond.fieldLink RX4 33 "HoseSpans" "refusedNo" "I", Cond.fieldLink RX4 36 "HoseSpans" "refusedFull" "I"]
def wsX4_pumps : List Cond := .code yX4_pumps cX4_pumps 2 (some .int) :: ((wsX4_pumps_r1 ++ (wsX4_pumps_r2 ++ wsX4_pumps_r3)) ++ wsX40 ++ wsX00)
def wsX4_bursts_r1 : List Cond := [Cond.fieldLink RX4 12 "HoseSpans" "line" "LHoseSpans$Line;", Cond.methodLink RX4 60 yX4_keepBefore, Cond.instanceMethod yX4_keepBefore, Cond.selects RX4 yX4_keepBefore yX4_keepBefore, Cond.initialized RX4, Cond.code yX4_keepBefore cX4_keepBefore 1 none, Cond.fieldLink RX4 16 "HoseSpans" "before" "LHoseSpans$Line;", Cond.methodLink RX4 191 yX0_copyFrom, Cond.instanceMethod yX0_copyFrom, Cond.selects RX0 yX0_copyFrom yX0_copyFrom, Cond.initialized RX0, Cond.code yX0_copyFrom cX0_copyFrom 2 none, Cond.fieldLink RX0 9 "HoseSpans$Line" "spans" "I", Cond.fieldLink RX0 15 "HoseSpans$Line" "pumps" "I", Cond.fieldLink RX0 18 "HoseSpans$Line" "facts" "[I", Cond.methodLink RX0 28 arraycopyName, Cond.native arraycopyName, Cond.static arraycopyName, Cond.initialized "java/lang/System", Cond.fieldLink RX0 22 "HoseSpans$Line" "settings" "[I", Cond.methodLink RX4 82 yX0_burstSpan, Cond.instanceMethod yX0_burstSpan, Cond.selects RX0 yX0_burstSpan yX0_burstSpan, Cond.code yX0_burstSpan cX0_burstSpan 3 (some .int)]
def wsX4_bursts_r2 : List Cond := [Cond.constant RX0 38 (-1000002), Cond.methodLink RX0 61 yX0_hasSpan, Cond.instanceMethod yX0_hasSpan, Cond.selects RX0 yX0_hasSpan yX0_hasSpan, Cond.code yX0_hasSpan cX0_hasSpan 2 (some .boolean), Cond.static yX4_within, Cond.code yX4_within cX4_within 3 (some .boolean), Cond.methodLink RX0 64 yX0_fact, Cond.instanceMethod yX0_fact, Cond.selects RX0 yX0_fact yX0_fact, Cond.code yX0_fact cX0_fact 3 (some .int), Cond.methodLink RX0 40 yX0_setFact, Cond.instanceMethod yX0_setFact, Cond.selects RX0 yX0_setFact yX0_setFact, Cond.code yX0_setFact cX0_setFact 4 none, Cond.methodLink RX4 67 yX4_settled, Cond.instanceMethod yX4_settled, Cond.selects RX4 yX4_settled yX4_settled, Cond.code yX4_settled cX4_settled 2 (some .int), Cond.fieldLink RX4 19 "HoseSpans" "states" "[LHoseSpans$Line;", Cond.fieldLink RX4 23 "HoseSpans" "nextState" "I", Cond.fieldLink RX4 27 "HoseSpans" "statesLeft" "I", Cond.methodLink RX4 223 Lib.Math.min.name, Cond.static Lib.Math.min.name]
def wsX4_bursts_r3 : List Cond := [Cond.initialized "java/lang/Math", Cond.code Lib.Math.min.name Lib.Math.min.code 2 (some .int), Cond.methodLink RX4 188 yX4_isRefusal, Cond.static yX4_isRefusal, Cond.code yX4_isRefusal cX4_isRefusal 1 (some .boolean), Cond.constant RX4 118 (-1000002), Cond.constant RX4 97 (-1000003), Cond.constant RX4 170 (-1000004), Cond.methodLink RX4 98 yX4_counted, Cond.instanceMethod yX4_counted, Cond.selects RX4 yX4_counted yX4_counted, Cond.code yX4_counted cX4_counted 2 (some .int), Cond.fieldLink RX4 30 "HoseSpans" "refusedBad" "I", Cond.fieldLink RX4 33 "HoseSpans" "refusedNo" "I", Cond.fieldLink RX4 36 "HoseSpans" "refusedFull" "I"]
def wsX4_bursts : List Cond := .code yX4_bursts cX4_bursts 2 (some .int) :: ((wsX4_bursts_r1 ++ (wsX4_bursts_r2 ++ wsX4_bursts_r3)) ++ wsX40 ++ wsX00)
def wsX4_mends_r1 : List Cond := [Cond.fieldLink RX4 12 "HoseSpans" "line" "LHoseSpans$Line;", Cond.methodLink RX4 60 yX4_keepBefore, Cond.instanceMethod yX4_keepBefore, Cond.selects RX4 yX4_keepBefore yX4_keepBefore, Cond.initialized RX4, Cond.code yX4_keepBefore cX4_keepBefore 1 none, Cond.fieldLink RX4 16 "HoseSpans" "before" "LHoseSpans$Line;", Cond.methodLink RX4 191 yX0_copyFrom, Cond.instanceMethod yX0_copyFrom, Cond.selects RX0 yX0_copyFrom yX0_copyFrom, Cond.initialized RX0, Cond.code yX0_copyFrom cX0_copyFrom 2 none, Cond.fieldLink RX0 9 "HoseSpans$Line" "spans" "I", Cond.fieldLink RX0 15 "HoseSpans$Line" "pumps" "I", Cond.fieldLink RX0 18 "HoseSpans$Line" "facts" "[I", Cond.methodLink RX0 28 arraycopyName, Cond.native arraycopyName, Cond.static arraycopyName, Cond.initialized "java/lang/System", Cond.fieldLink RX0 22 "HoseSpans$Line" "settings" "[I", Cond.methodLink RX4 85 yX0_mendSpan, Cond.instanceMethod yX0_mendSpan, Cond.selects RX0 yX0_mendSpan yX0_mendSpan, Cond.code yX0_mendSpan cX0_mendSpan 2 (some .int)]
def wsX4_mends_r2 : List Cond := [Cond.constant RX0 38 (-1000002), Cond.constant RX0 44 (-1000003), Cond.methodLink RX0 61 yX0_hasSpan, Cond.instanceMethod yX0_hasSpan, Cond.selects RX0 yX0_hasSpan yX0_hasSpan, Cond.code yX0_hasSpan cX0_hasSpan 2 (some .boolean), Cond.static yX4_within, Cond.code yX4_within cX4_within 3 (some .boolean), Cond.methodLink RX0 64 yX0_fact, Cond.instanceMethod yX0_fact, Cond.selects RX0 yX0_fact yX0_fact, Cond.code yX0_fact cX0_fact 3 (some .int), Cond.methodLink RX0 68 yX0_hosesOf, Cond.instanceMethod yX0_hosesOf, Cond.selects RX0 yX0_hosesOf yX0_hosesOf, Cond.code yX0_hosesOf cX0_hosesOf 2 (some .int), Cond.methodLink RX0 40 yX0_setFact, Cond.instanceMethod yX0_setFact, Cond.selects RX0 yX0_setFact yX0_setFact, Cond.code yX0_setFact cX0_setFact 4 none, Cond.methodLink RX4 67 yX4_settled, Cond.instanceMethod yX4_settled, Cond.selects RX4 yX4_settled yX4_settled, Cond.code yX4_settled cX4_settled 2 (some .int)]
def wsX4_mends_r3 : List Cond := [Cond.fieldLink RX4 19 "HoseSpans" "states" "[LHoseSpans$Line;", Cond.fieldLink RX4 23 "HoseSpans" "nextState" "I", Cond.fieldLink RX4 27 "HoseSpans" "statesLeft" "I", Cond.methodLink RX4 223 Lib.Math.min.name, Cond.static Lib.Math.min.name, Cond.initialized "java/lang/Math", Cond.code Lib.Math.min.name Lib.Math.min.code 2 (some .int), Cond.methodLink RX4 188 yX4_isRefusal, Cond.static yX4_isRefusal, Cond.code yX4_isRefusal cX4_isRefusal 1 (some .boolean), Cond.constant RX4 118 (-1000002), Cond.constant RX4 97 (-1000003), Cond.constant RX4 170 (-1000004), Cond.methodLink RX4 98 yX4_counted, Cond.instanceMethod yX4_counted, Cond.selects RX4 yX4_counted yX4_counted, Cond.code yX4_counted cX4_counted 2 (some .int), Cond.fieldLink RX4 30 "HoseSpans" "refusedBad" "I", Cond.fieldLink RX4 33 "HoseSpans" "refusedNo" "I", Cond.fieldLink RX4 36 "HoseSpans" "refusedFull" "I"]
def wsX4_mends : List Cond := .code yX4_mends cX4_mends 2 (some .int) :: ((wsX4_mends_r1 ++ (wsX4_mends_r2 ++ wsX4_mends_r3)) ++ wsX40 ++ wsX00)
def wsX4_bitsOf : List Cond := .code yX4_bitsOf cX4_bitsOf 1 (some .int) :: ([])
def wsX4_sizeOf : List Cond := .code yX4_sizeOf cX4_sizeOf 1 (some .int) :: ([])
def wsX4_lays_r1 : List Cond := [Cond.fieldLink RX4 56 "HoseSpans" "search" "LHoseSpans$PumpSearch;", Cond.fieldLink RX4 12 "HoseSpans" "line" "LHoseSpans$Line;", Cond.fieldLink RX4 88 "HoseSpans$Line" "settings" "[I", Cond.constant RX4 96 (1073741824), Cond.constant RX4 97 (-1000003), Cond.fieldLink RX4 104 "HoseSpans$Line" "pumps" "I", Cond.methodLink RX4 92 yX1_bestSet, Cond.instanceMethod yX1_bestSet, Cond.selects RX1 yX1_bestSet yX1_bestSet, Cond.initialized RX1, Cond.code yX1_bestSet cX1_bestSet 4 (some .int), Cond.fieldLink RX1 9 "HoseSpans$PumpSearch" "best" "[I", Cond.constant RX1 15 (1073741824), Cond.fieldLink RX1 22 "HoseSpans$Line" "settings" "[I", Cond.fieldLink RX1 31 "HoseSpans$Line" "spans" "I", Cond.methodLink RX1 16 yJ7_fill_53178, Cond.static yJ7_fill_53178, Cond.initialized RJ7, Cond.code yJ7_fill_53178 cJ7_fill_53178 4 none, Cond.methodLink RX1 27 yX1_leadOn, Cond.instanceMethod yX1_leadOn, Cond.selects RX1 yX1_leadOn yX1_leadOn, Cond.code yX1_leadOn cX1_leadOn 8 none, Cond.methodLink RX1 35 Lib.Math.min.name]
def wsX4_lays_r2 : List Cond := [Cond.static Lib.Math.min.name, Cond.initialized "java/lang/Math", Cond.code Lib.Math.min.name Lib.Math.min.code 2 (some .int), Cond.methodLink RX1 41 yX0_failureOf, Cond.instanceMethod yX0_failureOf, Cond.selects RX0 yX0_failureOf yX0_failureOf, Cond.initialized RX0, Cond.code yX0_failureOf cX0_failureOf 4 (some .int), Cond.methodLink RX0 64 yX0_fact, Cond.instanceMethod yX0_fact, Cond.selects RX0 yX0_fact yX0_fact, Cond.code yX0_fact cX0_fact 3 (some .int), Cond.fieldLink RX0 18 "HoseSpans$Line" "facts" "[I", Cond.methodLink RX0 77 yX0_lossBy, Cond.instanceMethod yX0_lossBy, Cond.selects RX0 yX0_lossBy yX0_lossBy, Cond.code yX0_lossBy cX0_lossBy 4 (some .int), Cond.methodLink RX1 45 yX0_lossBy, Cond.methodLink RX4 98 yX4_counted, Cond.instanceMethod yX4_counted, Cond.selects RX4 yX4_counted yX4_counted, Cond.initialized RX4, Cond.code yX4_counted cX4_counted 2 (some .int), Cond.fieldLink RX4 30 "HoseSpans" "refusedBad" "I"]
def wsX4_lays_r3 : List Cond := [Cond.fieldLink RX4 33 "HoseSpans" "refusedNo" "I", Cond.fieldLink RX4 36 "HoseSpans" "refusedFull" "I", Cond.methodLink RX4 60 yX4_keepBefore, Cond.instanceMethod yX4_keepBefore, Cond.selects RX4 yX4_keepBefore yX4_keepBefore, Cond.code yX4_keepBefore cX4_keepBefore 1 none, Cond.fieldLink RX4 16 "HoseSpans" "before" "LHoseSpans$Line;", Cond.methodLink RX4 191 yX0_copyFrom, Cond.instanceMethod yX0_copyFrom, Cond.selects RX0 yX0_copyFrom yX0_copyFrom, Cond.code yX0_copyFrom cX0_copyFrom 2 none, Cond.fieldLink RX0 9 "HoseSpans$Line" "spans" "I", Cond.fieldLink RX0 15 "HoseSpans$Line" "pumps" "I", Cond.methodLink RX0 28 arraycopyName, Cond.native arraycopyName, Cond.static arraycopyName, Cond.initialized "java/lang/System", Cond.fieldLink RX0 22 "HoseSpans$Line" "settings" "[I", Cond.methodLink RX4 101 yX4_bitsOf, Cond.static yX4_bitsOf, Cond.code yX4_bitsOf cX4_bitsOf 1 (some .int), Cond.methodLink RX4 107 yX4_sizeOf, Cond.static yX4_sizeOf, Cond.code yX4_sizeOf cX4_sizeOf 1 (some .int)]
def wsX4_lays_r4 : List Cond := [Cond.methodLink RX4 67 yX4_settled, Cond.instanceMethod yX4_settled, Cond.selects RX4 yX4_settled yX4_settled, Cond.code yX4_settled cX4_settled 2 (some .int), Cond.fieldLink RX4 19 "HoseSpans" "states" "[LHoseSpans$Line;", Cond.fieldLink RX4 23 "HoseSpans" "nextState" "I", Cond.fieldLink RX4 27 "HoseSpans" "statesLeft" "I", Cond.methodLink RX4 223 Lib.Math.min.name, Cond.methodLink RX4 188 yX4_isRefusal, Cond.static yX4_isRefusal, Cond.code yX4_isRefusal cX4_isRefusal 1 (some .boolean), Cond.constant RX4 118 (-1000002), Cond.constant RX4 170 (-1000004)]
def wsX4_lays : List Cond := .code yX4_lays cX4_lays 2 (some .int) :: ((wsX4_lays_r1 ++ (wsX4_lays_r2 ++ (wsX4_lays_r3 ++ wsX4_lays_r4))) ++ wsX40 ++ wsX00 ++ wsX10)
def wsX4_of : List Cond := .code yX4_of cX4_of 3 (some .int) :: ([.fieldLink RX4 12 "HoseSpans" "line" "LHoseSpans$Line;", .constant RX4 118 (-1000002), .methodLink RX4 110 yX0_hasSpan, .instanceMethod yX0_hasSpan, .selects RX0 yX0_hasSpan yX0_hasSpan, .initialized RX0, .code yX0_hasSpan cX0_hasSpan 2 (some .boolean), .fieldLink RX0 9 "HoseSpans$Line" "spans" "I", .static yX4_within, .initialized RX4, .code yX4_within cX4_within 3 (some .boolean), .methodLink RX4 114 yX4_within, .methodLink RX4 98 yX4_counted, .instanceMethod yX4_counted, .selects RX4 yX4_counted yX4_counted, .code yX4_counted cX4_counted 2 (some .int), .fieldLink RX4 30 "HoseSpans" "refusedBad" "I", .fieldLink RX4 33 "HoseSpans" "refusedNo" "I", .fieldLink RX4 36 "HoseSpans" "refusedFull" "I", .methodLink RX4 119 yX0_fact, .instanceMethod yX0_fact, .selects RX0 yX0_fact yX0_fact, .code yX0_fact cX0_fact 3 (some .int), .fieldLink RX0 18 "HoseSpans$Line" "facts" "[I"] ++ wsX40 ++ wsX00)
def wsX4_loss_r1 : List Cond := [Cond.fieldLink RX4 12 "HoseSpans" "line" "LHoseSpans$Line;", Cond.constant RX4 118 (-1000002), Cond.methodLink RX4 110 yX0_hasSpan, Cond.instanceMethod yX0_hasSpan, Cond.selects RX0 yX0_hasSpan yX0_hasSpan, Cond.initialized RX0, Cond.code yX0_hasSpan cX0_hasSpan 2 (some .boolean), Cond.fieldLink RX0 9 "HoseSpans$Line" "spans" "I", Cond.static yX4_within, Cond.initialized RX4, Cond.code yX4_within cX4_within 3 (some .boolean), Cond.methodLink RX4 114 yX4_within, Cond.methodLink RX4 98 yX4_counted, Cond.instanceMethod yX4_counted, Cond.selects RX4 yX4_counted yX4_counted, Cond.code yX4_counted cX4_counted 2 (some .int), Cond.fieldLink RX4 30 "HoseSpans" "refusedBad" "I", Cond.fieldLink RX4 33 "HoseSpans" "refusedNo" "I", Cond.fieldLink RX4 36 "HoseSpans" "refusedFull" "I", Cond.methodLink RX4 122 yX0_lossBy, Cond.instanceMethod yX0_lossBy, Cond.selects RX0 yX0_lossBy yX0_lossBy, Cond.code yX0_lossBy cX0_lossBy 4 (some .int), Cond.methodLink RX0 64 yX0_fact]
def wsX4_loss_r2 : List Cond := [Cond.instanceMethod yX0_fact, Cond.selects RX0 yX0_fact yX0_fact, Cond.code yX0_fact cX0_fact 3 (some .int), Cond.fieldLink RX0 18 "HoseSpans$Line" "facts" "[I"]
def wsX4_loss : List Cond := .code yX4_loss cX4_loss 3 (some .int) :: ((wsX4_loss_r1 ++ wsX4_loss_r2) ++ wsX40 ++ wsX00)
def wsX4_node_r1 : List Cond := [Cond.fieldLink RX4 12 "HoseSpans" "line" "LHoseSpans$Line;", Cond.constant RX4 118 (-1000002), Cond.fieldLink RX4 49 "HoseSpans" "water" "LHoseSpans$Run;", Cond.fieldLink RX4 88 "HoseSpans$Line" "settings" "[I", Cond.fieldLink RX4 132 "HoseSpans$Run" "in" "[I", Cond.fieldLink RX4 135 "HoseSpans$Run" "behind" "[I", Cond.methodLink RX4 125 yX0_hasNode, Cond.instanceMethod yX0_hasNode, Cond.selects RX0 yX0_hasNode yX0_hasNode, Cond.initialized RX0, Cond.code yX0_hasNode cX0_hasNode 2 (some .boolean), Cond.fieldLink RX0 9 "HoseSpans$Line" "spans" "I", Cond.static yX4_within, Cond.initialized RX4, Cond.code yX4_within cX4_within 3 (some .boolean), Cond.methodLink RX4 114 yX4_within, Cond.methodLink RX4 98 yX4_counted, Cond.instanceMethod yX4_counted, Cond.selects RX4 yX4_counted yX4_counted, Cond.code yX4_counted cX4_counted 2 (some .int), Cond.fieldLink RX4 30 "HoseSpans" "refusedBad" "I", Cond.fieldLink RX4 33 "HoseSpans" "refusedNo" "I", Cond.fieldLink RX4 36 "HoseSpans" "refusedFull" "I", Cond.methodLink RX4 128 yX2_follow]
def wsX4_node_r2 : List Cond := [Cond.instanceMethod yX2_follow, Cond.selects RX2 yX2_follow yX2_follow, Cond.initialized RX2, Cond.code yX2_follow cX2_follow 5 none, Cond.fieldLink RX2 19 "HoseSpans$Run" "in" "[I", Cond.constant RX2 9 (-1000001), Cond.fieldLink RX2 23 "HoseSpans$Run" "behind" "[I", Cond.fieldLink RX2 10 "HoseSpans$Run" "where" "I", Cond.fieldLink RX2 16 "HoseSpans$Run" "how" "I", Cond.fieldLink RX2 32 "HoseSpans$Line" "settings" "[I", Cond.fieldLink RX2 37 "HoseSpans$Line" "spans" "I", Cond.methodLink RX2 26 yJ7_fill_53178, Cond.static yJ7_fill_53178, Cond.initialized RJ7, Cond.code yJ7_fill_53178 cJ7_fill_53178 4 none, Cond.methodLink RX2 40 yX2_failureAt, Cond.instanceMethod yX2_failureAt, Cond.selects RX2 yX2_failureAt yX2_failureAt, Cond.code yX2_failureAt cX2_failureAt 7 (some .int), Cond.methodLink RX2 52 Lib.Math.max.name, Cond.static Lib.Math.max.name, Cond.initialized "java/lang/Math", Cond.code Lib.Math.max.name Lib.Math.max.code 2 (some .int), Cond.methodLink RX2 48 yX0_hasPump]
def wsX4_node_r3 : List Cond := [Cond.instanceMethod yX0_hasPump, Cond.selects RX0 yX0_hasPump yX0_hasPump, Cond.code yX0_hasPump cX0_hasPump 2 (some .boolean), Cond.fieldLink RX0 15 "HoseSpans$Line" "pumps" "I", Cond.methodLink RX2 57 yX0_failureOf, Cond.instanceMethod yX0_failureOf, Cond.selects RX0 yX0_failureOf yX0_failureOf, Cond.code yX0_failureOf cX0_failureOf 4 (some .int), Cond.methodLink RX0 64 yX0_fact, Cond.instanceMethod yX0_fact, Cond.selects RX0 yX0_fact yX0_fact, Cond.code yX0_fact cX0_fact 3 (some .int), Cond.fieldLink RX0 18 "HoseSpans$Line" "facts" "[I", Cond.methodLink RX0 77 yX0_lossBy, Cond.instanceMethod yX0_lossBy, Cond.selects RX0 yX0_lossBy yX0_lossBy, Cond.code yX0_lossBy cX0_lossBy 4 (some .int), Cond.methodLink RX2 44 yX0_lossBy]
def wsX4_node : List Cond := .code yX4_node cX4_node 3 (some .int) :: ((wsX4_node_r1 ++ (wsX4_node_r2 ++ wsX4_node_r3)) ++ wsX40 ++ wsX00 ++ wsX20)
def wsX4_run_r1 : List Cond := [Cond.constant RX4 118 (-1000002), Cond.fieldLink RX4 49 "HoseSpans" "water" "LHoseSpans$Run;", Cond.fieldLink RX4 12 "HoseSpans" "line" "LHoseSpans$Line;", Cond.fieldLink RX4 88 "HoseSpans$Line" "settings" "[I", Cond.fieldLink RX4 138 "HoseSpans$Run" "where" "I", Cond.fieldLink RX4 141 "HoseSpans$Run" "how" "I", Cond.fieldLink RX4 135 "HoseSpans$Run" "behind" "[I", Cond.fieldLink RX4 144 "HoseSpans$Line" "spans" "I", Cond.methodLink RX4 114 yX4_within, Cond.static yX4_within, Cond.initialized RX4, Cond.code yX4_within cX4_within 3 (some .boolean), Cond.methodLink RX4 98 yX4_counted, Cond.instanceMethod yX4_counted, Cond.selects RX4 yX4_counted yX4_counted, Cond.code yX4_counted cX4_counted 2 (some .int), Cond.fieldLink RX4 30 "HoseSpans" "refusedBad" "I", Cond.fieldLink RX4 33 "HoseSpans" "refusedNo" "I", Cond.fieldLink RX4 36 "HoseSpans" "refusedFull" "I", Cond.methodLink RX4 128 yX2_follow, Cond.instanceMethod yX2_follow, Cond.selects RX2 yX2_follow yX2_follow, Cond.initialized RX2, Cond.code yX2_follow cX2_follow 5 none]
def wsX4_run_r2 : List Cond := [Cond.fieldLink RX2 19 "HoseSpans$Run" "in" "[I", Cond.constant RX2 9 (-1000001), Cond.fieldLink RX2 23 "HoseSpans$Run" "behind" "[I", Cond.fieldLink RX2 10 "HoseSpans$Run" "where" "I", Cond.fieldLink RX2 16 "HoseSpans$Run" "how" "I", Cond.fieldLink RX2 32 "HoseSpans$Line" "settings" "[I", Cond.fieldLink RX2 37 "HoseSpans$Line" "spans" "I", Cond.methodLink RX2 26 yJ7_fill_53178, Cond.static yJ7_fill_53178, Cond.initialized RJ7, Cond.code yJ7_fill_53178 cJ7_fill_53178 4 none, Cond.methodLink RX2 40 yX2_failureAt, Cond.instanceMethod yX2_failureAt, Cond.selects RX2 yX2_failureAt yX2_failureAt, Cond.code yX2_failureAt cX2_failureAt 7 (some .int), Cond.methodLink RX2 52 Lib.Math.max.name, Cond.static Lib.Math.max.name, Cond.initialized "java/lang/Math", Cond.code Lib.Math.max.name Lib.Math.max.code 2 (some .int), Cond.methodLink RX2 48 yX0_hasPump, Cond.instanceMethod yX0_hasPump, Cond.selects RX0 yX0_hasPump yX0_hasPump, Cond.initialized RX0, Cond.code yX0_hasPump cX0_hasPump 2 (some .boolean)]
def wsX4_run_r3 : List Cond := [Cond.fieldLink RX0 15 "HoseSpans$Line" "pumps" "I", Cond.methodLink RX2 57 yX0_failureOf, Cond.instanceMethod yX0_failureOf, Cond.selects RX0 yX0_failureOf yX0_failureOf, Cond.code yX0_failureOf cX0_failureOf 4 (some .int), Cond.methodLink RX0 64 yX0_fact, Cond.instanceMethod yX0_fact, Cond.selects RX0 yX0_fact yX0_fact, Cond.code yX0_fact cX0_fact 3 (some .int), Cond.fieldLink RX0 18 "HoseSpans$Line" "facts" "[I", Cond.methodLink RX0 77 yX0_lossBy, Cond.instanceMethod yX0_lossBy, Cond.selects RX0 yX0_lossBy yX0_lossBy, Cond.code yX0_lossBy cX0_lossBy 4 (some .int), Cond.methodLink RX2 44 yX0_lossBy]
def wsX4_run : List Cond := .code yX4_run cX4_run 2 (some .int) :: ((wsX4_run_r1 ++ (wsX4_run_r2 ++ wsX4_run_r3)) ++ wsX40 ++ wsX00 ++ wsX20)
def wsX4_fewest_r1 : List Cond := [Cond.constant RX4 118 (-1000002), Cond.fieldLink RX4 56 "HoseSpans" "search" "LHoseSpans$PumpSearch;", Cond.fieldLink RX4 12 "HoseSpans" "line" "LHoseSpans$Line;", Cond.constant RX4 96 (1073741824), Cond.constant RX4 147 (-1000001), Cond.methodLink RX4 114 yX4_within, Cond.static yX4_within, Cond.initialized RX4, Cond.code yX4_within cX4_within 3 (some .boolean), Cond.methodLink RX4 98 yX4_counted, Cond.instanceMethod yX4_counted, Cond.selects RX4 yX4_counted yX4_counted, Cond.code yX4_counted cX4_counted 2 (some .int), Cond.fieldLink RX4 30 "HoseSpans" "refusedBad" "I", Cond.fieldLink RX4 33 "HoseSpans" "refusedNo" "I", Cond.fieldLink RX4 36 "HoseSpans" "refusedFull" "I", Cond.methodLink RX4 92 yX1_bestSet, Cond.instanceMethod yX1_bestSet, Cond.selects RX1 yX1_bestSet yX1_bestSet, Cond.initialized RX1, Cond.code yX1_bestSet cX1_bestSet 4 (some .int), Cond.fieldLink RX1 9 "HoseSpans$PumpSearch" "best" "[I", Cond.constant RX1 15 (1073741824), Cond.fieldLink RX1 22 "HoseSpans$Line" "settings" "[I"]
def wsX4_fewest_r2 : List Cond := [Cond.fieldLink RX1 31 "HoseSpans$Line" "spans" "I", Cond.methodLink RX1 16 yJ7_fill_53178, Cond.static yJ7_fill_53178, Cond.initialized RJ7, Cond.code yJ7_fill_53178 cJ7_fill_53178 4 none, Cond.methodLink RX1 27 yX1_leadOn, Cond.instanceMethod yX1_leadOn, Cond.selects RX1 yX1_leadOn yX1_leadOn, Cond.code yX1_leadOn cX1_leadOn 8 none, Cond.methodLink RX1 35 Lib.Math.min.name, Cond.static Lib.Math.min.name, Cond.initialized "java/lang/Math", Cond.code Lib.Math.min.name Lib.Math.min.code 2 (some .int), Cond.methodLink RX1 41 yX0_failureOf, Cond.instanceMethod yX0_failureOf, Cond.selects RX0 yX0_failureOf yX0_failureOf, Cond.initialized RX0, Cond.code yX0_failureOf cX0_failureOf 4 (some .int), Cond.methodLink RX0 64 yX0_fact, Cond.instanceMethod yX0_fact, Cond.selects RX0 yX0_fact yX0_fact, Cond.code yX0_fact cX0_fact 3 (some .int), Cond.fieldLink RX0 18 "HoseSpans$Line" "facts" "[I", Cond.methodLink RX0 77 yX0_lossBy]
def wsX4_fewest_r3 : List Cond := [Cond.instanceMethod yX0_lossBy, Cond.selects RX0 yX0_lossBy yX0_lossBy, Cond.code yX0_lossBy cX0_lossBy 4 (some .int), Cond.methodLink RX1 45 yX0_lossBy, Cond.methodLink RX4 107 yX4_sizeOf, Cond.static yX4_sizeOf, Cond.code yX4_sizeOf cX4_sizeOf 1 (some .int), Cond.methodLink RX4 101 yX4_bitsOf, Cond.static yX4_bitsOf, Cond.code yX4_bitsOf cX4_bitsOf 1 (some .int)]
def wsX4_fewest : List Cond := .code yX4_fewest cX4_fewest 4 (some .int) :: ((wsX4_fewest_r1 ++ (wsX4_fewest_r2 ++ wsX4_fewest_r3)) ++ wsX40 ++ wsX10 ++ wsX00)
def wsX4_most_r1 : List Cond := [Cond.fieldLink RX4 49 "HoseSpans" "water" "LHoseSpans$Run;", Cond.fieldLink RX4 12 "HoseSpans" "line" "LHoseSpans$Line;", Cond.fieldLink RX4 141 "HoseSpans$Run" "how" "I", Cond.constant RX4 147 (-1000001), Cond.methodLink RX4 128 yX2_follow, Cond.instanceMethod yX2_follow, Cond.selects RX2 yX2_follow yX2_follow, Cond.initialized RX2, Cond.code yX2_follow cX2_follow 5 none, Cond.fieldLink RX2 19 "HoseSpans$Run" "in" "[I", Cond.constant RX2 9 (-1000001), Cond.fieldLink RX2 23 "HoseSpans$Run" "behind" "[I", Cond.fieldLink RX2 10 "HoseSpans$Run" "where" "I", Cond.fieldLink RX2 16 "HoseSpans$Run" "how" "I", Cond.fieldLink RX2 32 "HoseSpans$Line" "settings" "[I", Cond.fieldLink RX2 37 "HoseSpans$Line" "spans" "I", Cond.methodLink RX2 26 yJ7_fill_53178, Cond.static yJ7_fill_53178, Cond.initialized RJ7, Cond.code yJ7_fill_53178 cJ7_fill_53178 4 none, Cond.methodLink RX2 40 yX2_failureAt, Cond.instanceMethod yX2_failureAt, Cond.selects RX2 yX2_failureAt yX2_failureAt, Cond.code yX2_failureAt cX2_failureAt 7 (some .int)]
def wsX4_most_r2 : List Cond := [Cond.methodLink RX2 52 Lib.Math.max.name, Cond.static Lib.Math.max.name, Cond.initialized "java/lang/Math", Cond.code Lib.Math.max.name Lib.Math.max.code 2 (some .int), Cond.methodLink RX2 48 yX0_hasPump, Cond.instanceMethod yX0_hasPump, Cond.selects RX0 yX0_hasPump yX0_hasPump, Cond.initialized RX0, Cond.code yX0_hasPump cX0_hasPump 2 (some .boolean), Cond.fieldLink RX0 15 "HoseSpans$Line" "pumps" "I", Cond.methodLink RX2 57 yX0_failureOf, Cond.instanceMethod yX0_failureOf, Cond.selects RX0 yX0_failureOf yX0_failureOf, Cond.code yX0_failureOf cX0_failureOf 4 (some .int), Cond.methodLink RX0 64 yX0_fact, Cond.instanceMethod yX0_fact, Cond.selects RX0 yX0_fact yX0_fact, Cond.code yX0_fact cX0_fact 3 (some .int), Cond.fieldLink RX0 18 "HoseSpans$Line" "facts" "[I", Cond.methodLink RX0 77 yX0_lossBy, Cond.instanceMethod yX0_lossBy, Cond.selects RX0 yX0_lossBy yX0_lossBy, Cond.code yX0_lossBy cX0_lossBy 4 (some .int), Cond.methodLink RX2 44 yX0_lossBy]
def wsX4_most : List Cond := .code yX4_most cX4_most 2 (some .int) :: ((wsX4_most_r1 ++ wsX4_most_r2) ++ wsX40 ++ wsX20 ++ wsX00)
def wsX4_count_r1 : List Cond := [Cond.constant RX4 118 (-1000002), Cond.fieldLink RX4 12 "HoseSpans" "line" "LHoseSpans$Line;", Cond.fieldLink RX4 104 "HoseSpans$Line" "pumps" "I", Cond.fieldLink RX4 144 "HoseSpans$Line" "spans" "I", Cond.fieldLink RX4 88 "HoseSpans$Line" "settings" "[I", Cond.methodLink RX4 114 yX4_within, Cond.static yX4_within, Cond.initialized RX4, Cond.code yX4_within cX4_within 3 (some .boolean), Cond.methodLink RX4 98 yX4_counted, Cond.instanceMethod yX4_counted, Cond.selects RX4 yX4_counted yX4_counted, Cond.code yX4_counted cX4_counted 2 (some .int), Cond.fieldLink RX4 30 "HoseSpans" "refusedBad" "I", Cond.fieldLink RX4 33 "HoseSpans" "refusedNo" "I", Cond.fieldLink RX4 36 "HoseSpans" "refusedFull" "I", Cond.methodLink RX4 148 yJ6_bitCount_0f7a4, Cond.static yJ6_bitCount_0f7a4, Cond.initialized RJ6, Cond.code yJ6_bitCount_0f7a4 cJ6_bitCount_0f7a4 1 (some .int), Cond.constant RJ6 265 (1431655765), Cond.constant RJ6 266 (858993459), Cond.constant RJ6 267 (252645135), Cond.methodLink RX4 153 yX0_burstSpans]
def wsX4_count_r2 : List Cond := [Cond.instanceMethod yX0_burstSpans, Cond.selects RX0 yX0_burstSpans yX0_burstSpans, Cond.initialized RX0, Cond.code yX0_burstSpans cX0_burstSpans 3 (some .int), Cond.fieldLink RX0 9 "HoseSpans$Line" "spans" "I", Cond.methodLink RX0 64 yX0_fact, Cond.instanceMethod yX0_fact, Cond.selects RX0 yX0_fact yX0_fact, Cond.code yX0_fact cX0_fact 3 (some .int), Cond.fieldLink RX0 18 "HoseSpans$Line" "facts" "[I", Cond.methodLink RX4 156 yX0_allLengths, Cond.instanceMethod yX0_allLengths, Cond.selects RX0 yX0_allLengths yX0_allLengths, Cond.code yX0_allLengths cX0_allLengths 3 (some .int), Cond.methodLink RX0 68 yX0_hosesOf, Cond.instanceMethod yX0_hosesOf, Cond.selects RX0 yX0_hosesOf yX0_hosesOf, Cond.code yX0_hosesOf cX0_hosesOf 2 (some .int)]
def wsX4_count : List Cond := .code yX4_count cX4_count 2 (some .int) :: ((wsX4_count_r1 ++ wsX4_count_r2) ++ wsX40 ++ wsX00)
def wsX4_isTrip : List Cond := .code yX4_isTrip cX4_isTrip 4 (some .boolean) :: ([.methodLink RX4 114 yX4_within, .static yX4_within, .initialized RX4, .code yX4_within cX4_within 3 (some .boolean)])
def wsX4_broughtInHour : List Cond := .code yX4_broughtInHour cX4_broughtInHour 5 (some .int) :: ([.methodLink RX4 223 Lib.Math.min.name, .static Lib.Math.min.name, .initialized "java/lang/Math", .code Lib.Math.min.name Lib.Math.min.code 2 (some .int)])
def wsX4_shuttle : List Cond := .code yX4_shuttle cX4_shuttle 6 (some .int) :: ([.constant RX4 118 (-1000002), .methodLink RX4 114 yX4_within, .static yX4_within, .initialized RX4, .code yX4_within cX4_within 3 (some .boolean), .methodLink RX4 159 yX4_isTrip, .static yX4_isTrip, .code yX4_isTrip cX4_isTrip 4 (some .boolean), .methodLink RX4 98 yX4_counted, .instanceMethod yX4_counted, .selects RX4 yX4_counted yX4_counted, .code yX4_counted cX4_counted 2 (some .int), .fieldLink RX4 30 "HoseSpans" "refusedBad" "I", .fieldLink RX4 33 "HoseSpans" "refusedNo" "I", .fieldLink RX4 36 "HoseSpans" "refusedFull" "I", .methodLink RX4 163 yX4_broughtInHour, .static yX4_broughtInHour, .code yX4_broughtInHour cX4_broughtInHour 5 (some .int), .methodLink RX4 223 Lib.Math.min.name, .static Lib.Math.min.name, .initialized "java/lang/Math", .code Lib.Math.min.name Lib.Math.min.code 2 (some .int)] ++ wsX40)
def wsX4_tanks : List Cond := .code yX4_tanks cX4_tanks 7 (some .int) :: ([.constant RX4 118 (-1000002), .constant RX4 147 (-1000001), .methodLink RX4 114 yX4_within, .static yX4_within, .initialized RX4, .code yX4_within cX4_within 3 (some .boolean), .methodLink RX4 159 yX4_isTrip, .static yX4_isTrip, .code yX4_isTrip cX4_isTrip 4 (some .boolean), .methodLink RX4 98 yX4_counted, .instanceMethod yX4_counted, .selects RX4 yX4_counted yX4_counted, .code yX4_counted cX4_counted 2 (some .int), .fieldLink RX4 30 "HoseSpans" "refusedBad" "I", .fieldLink RX4 33 "HoseSpans" "refusedNo" "I", .fieldLink RX4 36 "HoseSpans" "refusedFull" "I", .methodLink RX4 163 yX4_broughtInHour, .static yX4_broughtInHour, .code yX4_broughtInHour cX4_broughtInHour 5 (some .int), .methodLink RX4 223 Lib.Math.min.name, .static Lib.Math.min.name, .initialized "java/lang/Math", .code Lib.Math.min.name Lib.Math.min.code 2 (some .int)] ++ wsX40)
def wsX4_type : List Cond := .code yX4_type cX4_type 2 (some .int) :: ([.constant RX4 118 (-1000002), .fieldLink RX4 42 "HoseSpans" "text" "LHoseSpans$Text;", .fieldLink RX4 167 "HoseSpans$Text" "length" "I", .constant RX4 170 (-1000004), .methodLink RX4 114 yX4_within, .static yX4_within, .initialized RX4, .code yX4_within cX4_within 3 (some .boolean), .methodLink RX4 98 yX4_counted, .instanceMethod yX4_counted, .selects RX4 yX4_counted yX4_counted, .code yX4_counted cX4_counted 2 (some .int), .fieldLink RX4 30 "HoseSpans" "refusedBad" "I", .fieldLink RX4 33 "HoseSpans" "refusedNo" "I", .fieldLink RX4 36 "HoseSpans" "refusedFull" "I", .methodLink RX4 171 yX3_put, .instanceMethod yX3_put, .selects RX3 yX3_put yX3_put, .initialized RX3, .code yX3_put cX3_put 2 none, .fieldLink RX3 25 "HoseSpans$Text" "bytes" "[B", .fieldLink RX3 9 "HoseSpans$Text" "length" "I"] ++ wsX40 ++ wsX30)
def wsX4_clear : List Cond := .code yX4_clear cX4_clear 2 (some .int) :: ([.fieldLink RX4 42 "HoseSpans" "text" "LHoseSpans$Text;", .fieldLink RX4 167 "HoseSpans$Text" "length" "I"] ++ wsX40 ++ wsX30)
def wsX4_obeyed_r1 : List Cond := [Cond.fieldLink RX4 42 "HoseSpans" "text" "LHoseSpans$Text;", Cond.fieldLink RX4 231 "HoseSpans$Text" "letters" "[B", Cond.fieldLink RX4 12 "HoseSpans" "line" "LHoseSpans$Line;", Cond.methodLink RX4 228 yX3_number, Cond.instanceMethod yX3_number, Cond.selects RX3 yX3_number yX3_number, Cond.initialized RX3, Cond.code yX3_number cX3_number 3 (some .int), Cond.fieldLink RX3 28 "HoseSpans$Text" "numbers" "[I", Cond.methodLink RX4 63 yX0_addSpan, Cond.instanceMethod yX0_addSpan, Cond.selects RX0 yX0_addSpan yX0_addSpan, Cond.initialized RX0, Cond.code yX0_addSpan cX0_addSpan 5 (some .int), Cond.constant RX0 38 (-1000002), Cond.fieldLink RX0 9 "HoseSpans$Line" "spans" "I", Cond.constant RX0 39 (-1000004), Cond.static yX4_within, Cond.initialized RX4, Cond.code yX4_within cX4_within 3 (some .boolean), Cond.methodLink RX0 40 yX0_setFact, Cond.instanceMethod yX0_setFact, Cond.selects RX0 yX0_setFact yX0_setFact, Cond.code yX0_setFact cX0_setFact 4 none]
def wsX4_obeyed_r2 : List Cond := [Cond.fieldLink RX0 18 "HoseSpans$Line" "facts" "[I", Cond.methodLink RX4 75 yX0_changeSetting, Cond.instanceMethod yX0_changeSetting, Cond.selects RX0 yX0_changeSetting yX0_changeSetting, Cond.code yX0_changeSetting cX0_changeSetting 4 (some .int), Cond.fieldLink RX0 22 "HoseSpans$Line" "settings" "[I", Cond.methodLink RX4 79 yX0_turnPump, Cond.instanceMethod yX0_turnPump, Cond.selects RX0 yX0_turnPump yX0_turnPump, Cond.code yX0_turnPump cX0_turnPump 2 (some .int), Cond.fieldLink RX0 15 "HoseSpans$Line" "pumps" "I", Cond.methodLink RX0 51 yX0_hasNode, Cond.instanceMethod yX0_hasNode, Cond.selects RX0 yX0_hasNode yX0_hasNode, Cond.code yX0_hasNode cX0_hasNode 2 (some .boolean), Cond.methodLink RX0 55 yJ6_bitCount_0f7a4, Cond.static yJ6_bitCount_0f7a4, Cond.initialized RJ6, Cond.code yJ6_bitCount_0f7a4 cJ6_bitCount_0f7a4 1 (some .int), Cond.constant RJ6 265 (1431655765), Cond.constant RJ6 266 (858993459), Cond.constant RJ6 267 (252645135), Cond.methodLink RX4 82 yX0_burstSpan, Cond.instanceMethod yX0_burstSpan]
def wsX4_obeyed_r3 : List Cond := [Cond.selects RX0 yX0_burstSpan yX0_burstSpan, Cond.code yX0_burstSpan cX0_burstSpan 3 (some .int), Cond.methodLink RX0 61 yX0_hasSpan, Cond.instanceMethod yX0_hasSpan, Cond.selects RX0 yX0_hasSpan yX0_hasSpan, Cond.code yX0_hasSpan cX0_hasSpan 2 (some .boolean), Cond.methodLink RX0 64 yX0_fact, Cond.instanceMethod yX0_fact, Cond.selects RX0 yX0_fact yX0_fact, Cond.code yX0_fact cX0_fact 3 (some .int), Cond.methodLink RX4 85 yX0_mendSpan, Cond.instanceMethod yX0_mendSpan, Cond.selects RX0 yX0_mendSpan yX0_mendSpan, Cond.code yX0_mendSpan cX0_mendSpan 2 (some .int), Cond.constant RX0 44 (-1000003), Cond.methodLink RX0 68 yX0_hosesOf, Cond.instanceMethod yX0_hosesOf, Cond.selects RX0 yX0_hosesOf yX0_hosesOf, Cond.code yX0_hosesOf cX0_hosesOf 2 (some .int), Cond.methodLink RX4 71 yX0_cutLast, Cond.instanceMethod yX0_cutLast, Cond.selects RX0 yX0_cutLast yX0_cutLast, Cond.code yX0_cutLast cX0_cutLast 1 (some .int)]
def wsX4_obeyed : List Cond := .code yX4_obeyed cX4_obeyed 4 (some .int) :: ((wsX4_obeyed_r1 ++ (wsX4_obeyed_r2 ++ wsX4_obeyed_r3)) ++ wsX40 ++ wsX30 ++ wsX00)
def wsX4_does_r1 : List Cond := [Cond.fieldLink RX4 42 "HoseSpans" "text" "LHoseSpans$Text;", Cond.fieldLink RX4 179 "HoseSpans$Text" "place" "I", Cond.fieldLink RX4 182 "HoseSpans$Text" "orders" "I", Cond.fieldLink RX4 12 "HoseSpans" "line" "LHoseSpans$Line;", Cond.fieldLink RX4 16 "HoseSpans" "before" "LHoseSpans$Line;", Cond.methodLink RX4 175 yX3_isRead, Cond.instanceMethod yX3_isRead, Cond.selects RX3 yX3_isRead yX3_isRead, Cond.initialized RX3, Cond.code yX3_isRead cX3_isRead 1 (some .boolean), Cond.fieldLink RX3 15 "HoseSpans$Text" "orders" "I", Cond.fieldLink RX3 18 "HoseSpans$Text" "place" "I", Cond.fieldLink RX3 9 "HoseSpans$Text" "length" "I", Cond.methodLink RX3 32 yX3_skipBlanks, Cond.instanceMethod yX3_skipBlanks, Cond.selects RX3 yX3_skipBlanks yX3_skipBlanks, Cond.code yX3_skipBlanks cX3_skipBlanks 1 none, Cond.fieldLink RX3 25 "HoseSpans$Text" "bytes" "[B", Cond.methodLink RX3 35 yX3_takesOrder, Cond.instanceMethod yX3_takesOrder, Cond.selects RX3 yX3_takesOrder yX3_takesOrder, Cond.code yX3_takesOrder cX3_takesOrder 4 (some .boolean), Cond.fieldLink RX3 21 "HoseSpans$Text" "letters" "[B", Cond.methodLink RX3 39 yX3_byteHere]
def wsX4_does_r2 : List Cond := [Cond.instanceMethod yX3_byteHere, Cond.selects RX3 yX3_byteHere yX3_byteHere, Cond.code yX3_byteHere cX3_byteHere 1 (some .int), Cond.methodLink RX3 43 yX3_numbersOf, Cond.static yX3_numbersOf, Cond.code yX3_numbersOf cX3_numbersOf 1 (some .int), Cond.methodLink RX3 47 yX3_takesNumber, Cond.instanceMethod yX3_takesNumber, Cond.selects RX3 yX3_takesNumber yX3_takesNumber, Cond.code yX3_takesNumber cX3_takesNumber 6 (some .boolean), Cond.fieldLink RX3 28 "HoseSpans$Text" "numbers" "[I", Cond.methodLink RX3 51 yX3_isFigureHere, Cond.instanceMethod yX3_isFigureHere, Cond.selects RX3 yX3_isFigureHere yX3_isFigureHere, Cond.code yX3_isFigureHere cX3_isFigureHere 1 (some .boolean), Cond.static yX4_within, Cond.initialized RX4, Cond.code yX4_within cX4_within 3 (some .boolean), Cond.methodLink RX4 60 yX4_keepBefore, Cond.instanceMethod yX4_keepBefore, Cond.selects RX4 yX4_keepBefore yX4_keepBefore, Cond.code yX4_keepBefore cX4_keepBefore 1 none, Cond.methodLink RX4 191 yX0_copyFrom, Cond.instanceMethod yX0_copyFrom]
def wsX4_does_r3 : List Cond := [Cond.selects RX0 yX0_copyFrom yX0_copyFrom, Cond.initialized RX0, Cond.code yX0_copyFrom cX0_copyFrom 2 none, Cond.fieldLink RX0 9 "HoseSpans$Line" "spans" "I", Cond.fieldLink RX0 15 "HoseSpans$Line" "pumps" "I", Cond.fieldLink RX0 18 "HoseSpans$Line" "facts" "[I", Cond.methodLink RX0 28 arraycopyName, Cond.native arraycopyName, Cond.static arraycopyName, Cond.initialized "java/lang/System", Cond.fieldLink RX0 22 "HoseSpans$Line" "settings" "[I", Cond.methodLink RX4 185 yX4_obeyed, Cond.instanceMethod yX4_obeyed, Cond.selects RX4 yX4_obeyed yX4_obeyed, Cond.code yX4_obeyed cX4_obeyed 4 (some .int), Cond.fieldLink RX4 231 "HoseSpans$Text" "letters" "[B", Cond.methodLink RX4 228 yX3_number, Cond.instanceMethod yX3_number, Cond.selects RX3 yX3_number yX3_number, Cond.code yX3_number cX3_number 3 (some .int), Cond.methodLink RX4 63 yX0_addSpan, Cond.instanceMethod yX0_addSpan, Cond.selects RX0 yX0_addSpan yX0_addSpan, Cond.code yX0_addSpan cX0_addSpan 5 (some .int)]
def wsX4_does_r4 : List Cond := [Cond.constant RX0 38 (-1000002), Cond.constant RX0 39 (-1000004), Cond.methodLink RX0 40 yX0_setFact, Cond.instanceMethod yX0_setFact, Cond.selects RX0 yX0_setFact yX0_setFact, Cond.code yX0_setFact cX0_setFact 4 none, Cond.methodLink RX4 75 yX0_changeSetting, Cond.instanceMethod yX0_changeSetting, Cond.selects RX0 yX0_changeSetting yX0_changeSetting, Cond.code yX0_changeSetting cX0_changeSetting 4 (some .int), Cond.methodLink RX4 79 yX0_turnPump, Cond.instanceMethod yX0_turnPump, Cond.selects RX0 yX0_turnPump yX0_turnPump, Cond.code yX0_turnPump cX0_turnPump 2 (some .int), Cond.methodLink RX0 51 yX0_hasNode, Cond.instanceMethod yX0_hasNode, Cond.selects RX0 yX0_hasNode yX0_hasNode, Cond.code yX0_hasNode cX0_hasNode 2 (some .boolean), Cond.methodLink RX0 55 yJ6_bitCount_0f7a4, Cond.static yJ6_bitCount_0f7a4, Cond.initialized RJ6, Cond.code yJ6_bitCount_0f7a4 cJ6_bitCount_0f7a4 1 (some .int), Cond.constant RJ6 265 (1431655765), Cond.constant RJ6 266 (858993459)]
def wsX4_does_r5 : List Cond := [Cond.constant RJ6 267 (252645135), Cond.methodLink RX4 82 yX0_burstSpan, Cond.instanceMethod yX0_burstSpan, Cond.selects RX0 yX0_burstSpan yX0_burstSpan, Cond.code yX0_burstSpan cX0_burstSpan 3 (some .int), Cond.methodLink RX0 61 yX0_hasSpan, Cond.instanceMethod yX0_hasSpan, Cond.selects RX0 yX0_hasSpan yX0_hasSpan, Cond.code yX0_hasSpan cX0_hasSpan 2 (some .boolean), Cond.methodLink RX0 64 yX0_fact, Cond.instanceMethod yX0_fact, Cond.selects RX0 yX0_fact yX0_fact, Cond.code yX0_fact cX0_fact 3 (some .int), Cond.methodLink RX4 85 yX0_mendSpan, Cond.instanceMethod yX0_mendSpan, Cond.selects RX0 yX0_mendSpan yX0_mendSpan, Cond.code yX0_mendSpan cX0_mendSpan 2 (some .int), Cond.constant RX0 44 (-1000003), Cond.methodLink RX0 68 yX0_hosesOf, Cond.instanceMethod yX0_hosesOf, Cond.selects RX0 yX0_hosesOf yX0_hosesOf, Cond.code yX0_hosesOf cX0_hosesOf 2 (some .int), Cond.methodLink RX4 71 yX0_cutLast, Cond.instanceMethod yX0_cutLast]
def wsX4_does_r6 : List Cond := [Cond.selects RX0 yX0_cutLast yX0_cutLast, Cond.code yX0_cutLast cX0_cutLast 1 (some .int), Cond.methodLink RX4 188 yX4_isRefusal, Cond.static yX4_isRefusal, Cond.code yX4_isRefusal cX4_isRefusal 1 (some .boolean), Cond.constant RX4 118 (-1000002), Cond.constant RX4 97 (-1000003), Cond.constant RX4 170 (-1000004), Cond.methodLink RX4 67 yX4_settled, Cond.instanceMethod yX4_settled, Cond.selects RX4 yX4_settled yX4_settled, Cond.code yX4_settled cX4_settled 2 (some .int), Cond.fieldLink RX4 19 "HoseSpans" "states" "[LHoseSpans$Line;", Cond.fieldLink RX4 23 "HoseSpans" "nextState" "I", Cond.fieldLink RX4 27 "HoseSpans" "statesLeft" "I", Cond.methodLink RX4 223 Lib.Math.min.name, Cond.static Lib.Math.min.name, Cond.initialized "java/lang/Math", Cond.code Lib.Math.min.name Lib.Math.min.code 2 (some .int), Cond.methodLink RX4 98 yX4_counted, Cond.instanceMethod yX4_counted, Cond.selects RX4 yX4_counted yX4_counted, Cond.code yX4_counted cX4_counted 2 (some .int), Cond.fieldLink RX4 30 "HoseSpans" "refusedBad" "I"]
def wsX4_does_r7 : List Cond := [Cond.fieldLink RX4 33 "HoseSpans" "refusedNo" "I", Cond.fieldLink RX4 36 "HoseSpans" "refusedFull" "I"]
def wsX4_does : List Cond := .code yX4_does cX4_does 2 (some .int) :: ((wsX4_does_r1 ++ (wsX4_does_r2 ++ (wsX4_does_r3 ++ (wsX4_does_r4 ++ (wsX4_does_r5 ++ (wsX4_does_r6 ++ wsX4_does_r7)))))) ++ wsX40 ++ wsX30 ++ wsX00)
def wsX4_back_r1 : List Cond := [Cond.fieldLink RX4 27 "HoseSpans" "statesLeft" "I", Cond.constant RX4 97 (-1000003), Cond.fieldLink RX4 23 "HoseSpans" "nextState" "I", Cond.fieldLink RX4 12 "HoseSpans" "line" "LHoseSpans$Line;", Cond.fieldLink RX4 19 "HoseSpans" "states" "[LHoseSpans$Line;", Cond.methodLink RX4 98 yX4_counted, Cond.instanceMethod yX4_counted, Cond.selects RX4 yX4_counted yX4_counted, Cond.initialized RX4, Cond.code yX4_counted cX4_counted 2 (some .int), Cond.fieldLink RX4 30 "HoseSpans" "refusedBad" "I", Cond.fieldLink RX4 33 "HoseSpans" "refusedNo" "I", Cond.fieldLink RX4 36 "HoseSpans" "refusedFull" "I", Cond.methodLink RX4 191 yX0_copyFrom, Cond.instanceMethod yX0_copyFrom, Cond.selects RX0 yX0_copyFrom yX0_copyFrom, Cond.initialized RX0, Cond.code yX0_copyFrom cX0_copyFrom 2 none, Cond.fieldLink RX0 9 "HoseSpans$Line" "spans" "I", Cond.fieldLink RX0 15 "HoseSpans$Line" "pumps" "I", Cond.fieldLink RX0 18 "HoseSpans$Line" "facts" "[I", Cond.methodLink RX0 28 arraycopyName, Cond.native arraycopyName, Cond.static arraycopyName]
def wsX4_back_r2 : List Cond := [Cond.initialized "java/lang/System", Cond.fieldLink RX0 22 "HoseSpans$Line" "settings" "[I"]
def wsX4_back : List Cond := .code yX4_back cX4_back 1 (some .int) :: ((wsX4_back_r1 ++ wsX4_back_r2) ++ wsX40 ++ wsX00)
def wsX4_told : List Cond := .code yX4_told cX4_told 2 (some .int) :: ([.fieldLink RX4 30 "HoseSpans" "refusedBad" "I", .fieldLink RX4 33 "HoseSpans" "refusedNo" "I", .fieldLink RX4 36 "HoseSpans" "refusedFull" "I", .fieldLink RX4 42 "HoseSpans" "text" "LHoseSpans$Text;", .fieldLink RX4 167 "HoseSpans$Text" "length" "I", .fieldLink RX4 27 "HoseSpans" "statesLeft" "I", .constant RX4 118 (-1000002), .methodLink RX4 98 yX4_counted, .instanceMethod yX4_counted, .selects RX4 yX4_counted yX4_counted, .initialized RX4, .code yX4_counted cX4_counted 2 (some .int)] ++ wsX40 ++ wsX30)
def wsX4_digest_r1 : List Cond := [Cond.fieldLink RX4 12 "HoseSpans" "line" "LHoseSpans$Line;", Cond.fieldLink RX4 88 "HoseSpans$Line" "settings" "[I", Cond.constantLong RX4 195 (2920), Cond.constantLong RX4 197 (31), Cond.fieldLink RX4 144 "HoseSpans$Line" "spans" "I", Cond.methodLink RX4 199 yX4_told, Cond.instanceMethod yX4_told, Cond.selects RX4 yX4_told yX4_told, Cond.initialized RX4, Cond.code yX4_told cX4_told 2 (some .int), Cond.fieldLink RX4 30 "HoseSpans" "refusedBad" "I", Cond.fieldLink RX4 33 "HoseSpans" "refusedNo" "I", Cond.fieldLink RX4 36 "HoseSpans" "refusedFull" "I", Cond.fieldLink RX4 42 "HoseSpans" "text" "LHoseSpans$Text;", Cond.fieldLink RX4 167 "HoseSpans$Text" "length" "I", Cond.fieldLink RX4 27 "HoseSpans" "statesLeft" "I", Cond.constant RX4 118 (-1000002), Cond.methodLink RX4 98 yX4_counted, Cond.instanceMethod yX4_counted, Cond.selects RX4 yX4_counted yX4_counted, Cond.code yX4_counted cX4_counted 2 (some .int), Cond.methodLink RX4 202 yX4_count, Cond.instanceMethod yX4_count, Cond.selects RX4 yX4_count yX4_count]
def wsX4_digest_r2 : List Cond := [Cond.code yX4_count cX4_count 2 (some .int), Cond.fieldLink RX4 104 "HoseSpans$Line" "pumps" "I", Cond.methodLink RX4 114 yX4_within, Cond.static yX4_within, Cond.code yX4_within cX4_within 3 (some .boolean), Cond.methodLink RX4 148 yJ6_bitCount_0f7a4, Cond.static yJ6_bitCount_0f7a4, Cond.initialized RJ6, Cond.code yJ6_bitCount_0f7a4 cJ6_bitCount_0f7a4 1 (some .int), Cond.constant RJ6 265 (1431655765), Cond.constant RJ6 266 (858993459), Cond.constant RJ6 267 (252645135), Cond.methodLink RX4 153 yX0_burstSpans, Cond.instanceMethod yX0_burstSpans, Cond.selects RX0 yX0_burstSpans yX0_burstSpans, Cond.initialized RX0, Cond.code yX0_burstSpans cX0_burstSpans 3 (some .int), Cond.fieldLink RX0 9 "HoseSpans$Line" "spans" "I", Cond.methodLink RX0 64 yX0_fact, Cond.instanceMethod yX0_fact, Cond.selects RX0 yX0_fact yX0_fact, Cond.code yX0_fact cX0_fact 3 (some .int), Cond.fieldLink RX0 18 "HoseSpans$Line" "facts" "[I", Cond.methodLink RX4 156 yX0_allLengths]
def wsX4_digest_r3 : List Cond := [Cond.instanceMethod yX0_allLengths, Cond.selects RX0 yX0_allLengths yX0_allLengths, Cond.code yX0_allLengths cX0_allLengths 3 (some .int), Cond.methodLink RX0 68 yX0_hosesOf, Cond.instanceMethod yX0_hosesOf, Cond.selects RX0 yX0_hosesOf yX0_hosesOf, Cond.code yX0_hosesOf cX0_hosesOf 2 (some .int), Cond.methodLink RX4 205 yX4_of, Cond.instanceMethod yX4_of, Cond.selects RX4 yX4_of yX4_of, Cond.code yX4_of cX4_of 3 (some .int), Cond.methodLink RX4 110 yX0_hasSpan, Cond.instanceMethod yX0_hasSpan, Cond.selects RX0 yX0_hasSpan yX0_hasSpan, Cond.code yX0_hasSpan cX0_hasSpan 2 (some .boolean), Cond.methodLink RX4 119 yX0_fact, Cond.methodLink RX4 208 yX4_loss, Cond.instanceMethod yX4_loss, Cond.selects RX4 yX4_loss yX4_loss, Cond.code yX4_loss cX4_loss 3 (some .int), Cond.methodLink RX4 122 yX0_lossBy, Cond.instanceMethod yX0_lossBy, Cond.selects RX0 yX0_lossBy yX0_lossBy, Cond.code yX0_lossBy cX0_lossBy 4 (some .int)]
def wsX4_digest_r4 : List Cond := [Cond.methodLink RX4 211 yX4_node, Cond.instanceMethod yX4_node, Cond.selects RX4 yX4_node yX4_node, Cond.code yX4_node cX4_node 3 (some .int), Cond.fieldLink RX4 49 "HoseSpans" "water" "LHoseSpans$Run;", Cond.fieldLink RX4 132 "HoseSpans$Run" "in" "[I", Cond.fieldLink RX4 135 "HoseSpans$Run" "behind" "[I", Cond.methodLink RX4 125 yX0_hasNode, Cond.instanceMethod yX0_hasNode, Cond.selects RX0 yX0_hasNode yX0_hasNode, Cond.code yX0_hasNode cX0_hasNode 2 (some .boolean), Cond.methodLink RX4 128 yX2_follow, Cond.instanceMethod yX2_follow, Cond.selects RX2 yX2_follow yX2_follow, Cond.initialized RX2, Cond.code yX2_follow cX2_follow 5 none, Cond.fieldLink RX2 19 "HoseSpans$Run" "in" "[I", Cond.constant RX2 9 (-1000001), Cond.fieldLink RX2 23 "HoseSpans$Run" "behind" "[I", Cond.fieldLink RX2 10 "HoseSpans$Run" "where" "I", Cond.fieldLink RX2 16 "HoseSpans$Run" "how" "I", Cond.fieldLink RX2 32 "HoseSpans$Line" "settings" "[I", Cond.fieldLink RX2 37 "HoseSpans$Line" "spans" "I", Cond.methodLink RX2 26 yJ7_fill_53178]
def wsX4_digest_r5 : List Cond := [Cond.static yJ7_fill_53178, Cond.initialized RJ7, Cond.code yJ7_fill_53178 cJ7_fill_53178 4 none, Cond.methodLink RX2 40 yX2_failureAt, Cond.instanceMethod yX2_failureAt, Cond.selects RX2 yX2_failureAt yX2_failureAt, Cond.code yX2_failureAt cX2_failureAt 7 (some .int), Cond.methodLink RX2 52 Lib.Math.max.name, Cond.static Lib.Math.max.name, Cond.initialized "java/lang/Math", Cond.code Lib.Math.max.name Lib.Math.max.code 2 (some .int), Cond.methodLink RX2 48 yX0_hasPump, Cond.instanceMethod yX0_hasPump, Cond.selects RX0 yX0_hasPump yX0_hasPump, Cond.code yX0_hasPump cX0_hasPump 2 (some .boolean), Cond.fieldLink RX0 15 "HoseSpans$Line" "pumps" "I", Cond.methodLink RX2 57 yX0_failureOf, Cond.instanceMethod yX0_failureOf, Cond.selects RX0 yX0_failureOf yX0_failureOf, Cond.code yX0_failureOf cX0_failureOf 4 (some .int), Cond.methodLink RX0 77 yX0_lossBy, Cond.methodLink RX2 44 yX0_lossBy, Cond.methodLink RX4 214 yX4_run, Cond.instanceMethod yX4_run]
def wsX4_digest_r6 : List Cond := [Cond.selects RX4 yX4_run yX4_run, Cond.code yX4_run cX4_run 2 (some .int), Cond.fieldLink RX4 138 "HoseSpans$Run" "where" "I", Cond.fieldLink RX4 141 "HoseSpans$Run" "how" "I", Cond.methodLink RX4 217 yX4_fewest, Cond.instanceMethod yX4_fewest, Cond.selects RX4 yX4_fewest yX4_fewest, Cond.code yX4_fewest cX4_fewest 4 (some .int), Cond.fieldLink RX4 56 "HoseSpans" "search" "LHoseSpans$PumpSearch;", Cond.constant RX4 96 (1073741824), Cond.constant RX4 147 (-1000001), Cond.methodLink RX4 92 yX1_bestSet, Cond.instanceMethod yX1_bestSet, Cond.selects RX1 yX1_bestSet yX1_bestSet, Cond.initialized RX1, Cond.code yX1_bestSet cX1_bestSet 4 (some .int), Cond.fieldLink RX1 9 "HoseSpans$PumpSearch" "best" "[I", Cond.constant RX1 15 (1073741824), Cond.fieldLink RX1 22 "HoseSpans$Line" "settings" "[I", Cond.fieldLink RX1 31 "HoseSpans$Line" "spans" "I", Cond.methodLink RX1 16 yJ7_fill_53178, Cond.methodLink RX1 27 yX1_leadOn, Cond.instanceMethod yX1_leadOn, Cond.selects RX1 yX1_leadOn yX1_leadOn]
def wsX4_digest_r7 : List Cond := [Cond.code yX1_leadOn cX1_leadOn 8 none, Cond.methodLink RX1 35 Lib.Math.min.name, Cond.static Lib.Math.min.name, Cond.code Lib.Math.min.name Lib.Math.min.code 2 (some .int), Cond.methodLink RX1 41 yX0_failureOf, Cond.methodLink RX1 45 yX0_lossBy, Cond.methodLink RX4 107 yX4_sizeOf, Cond.static yX4_sizeOf, Cond.code yX4_sizeOf cX4_sizeOf 1 (some .int), Cond.methodLink RX4 101 yX4_bitsOf, Cond.static yX4_bitsOf, Cond.code yX4_bitsOf cX4_bitsOf 1 (some .int), Cond.methodLink RX4 220 yX4_most, Cond.instanceMethod yX4_most, Cond.selects RX4 yX4_most yX4_most, Cond.code yX4_most cX4_most 2 (some .int)]
def wsX4_digest : List Cond := .code yX4_digest cX4_digest 6 (some .long) :: ((wsX4_digest_r1 ++ (wsX4_digest_r2 ++ (wsX4_digest_r3 ++ (wsX4_digest_r4 ++ (wsX4_digest_r5 ++ (wsX4_digest_r6 ++ wsX4_digest_r7)))))) ++ wsX40 ++ wsX00 ++ wsX30 ++ wsX20 ++ wsX10)
def wsX5_init : List Cond := .code yX5_init cX5_init 1 none :: ([.methodLink RX5 1 objectInit, .instanceMethod objectInit, .code objectInit ⟨#[0xb1]⟩ 1 none, .arrayClass .int, .fieldLink RX5 7 "HoseSpansModel" "now" "[I", .fieldLink RX5 13 "HoseSpansModel" "aside" "[I", .fieldLink RX5 16 "HoseSpansModel" "past" "[I", .fieldLink RX5 19 "HoseSpansModel" "refused" "[I", .fieldLink RX5 22 "HoseSpansModel" "text" "[I", .fieldLink RX5 25 "HoseSpansModel" "into" "[I", .fieldLink RX5 28 "HoseSpansModel" "behind" "[I", .fieldLink RX5 31 "HoseSpansModel" "said" "[I", .fieldLink RX5 34 "HoseSpansModel" "behindAll" "[I"] ++ wsX50)
def wsX5_in : List Cond := .code yX5_in cX5_in 3 (some .boolean) :: ([])
def wsX5_has : List Cond := .code yX5_has cX5_has 2 (some .boolean) :: ([])
def wsX5_ones : List Cond := .code yX5_ones cX5_ones 3 (some .int) :: ([])
def wsX5_bring : List Cond := .code yX5_bring cX5_bring 5 none :: ([])
def wsX5_refuse : List Cond := .code yX5_refuse cX5_refuse 2 (some .int) :: ([.fieldLink RX5 19 "HoseSpansModel" "refused" "[I", .constant RX5 37 (-1000002)] ++ wsX50)
def wsX5_note : List Cond := .code yX5_note cX5_note 2 none :: ([.fieldLink RX5 38 "HoseSpansModel" "states" "I", .fieldLink RX5 16 "HoseSpansModel" "past" "[I", .fieldLink RX5 7 "HoseSpansModel" "now" "[I", .methodLink RX5 42 yX5_bring, .static yX5_bring, .initialized RX5, .code yX5_bring cX5_bring 5 none] ++ wsX50)
def wsX5_isSpan : List Cond := .code yX5_isSpan cX5_isSpan 2 (some .boolean) :: ([.fieldLink RX5 7 "HoseSpansModel" "now" "[I", .methodLink RX5 46 yX5_in, .static yX5_in, .initialized RX5, .code yX5_in cX5_in 3 (some .boolean)] ++ wsX50)
def wsX5_isNode : List Cond := .code yX5_isNode cX5_isNode 2 (some .boolean) :: ([.fieldLink RX5 7 "HoseSpansModel" "now" "[I", .methodLink RX5 46 yX5_in, .static yX5_in, .initialized RX5, .code yX5_in cX5_in 3 (some .boolean)] ++ wsX50)
def wsX5_ofSpan : List Cond := .code yX5_ofSpan cX5_ofSpan 3 (some .int) :: ([.fieldLink RX5 7 "HoseSpansModel" "now" "[I"] ++ wsX50)
def wsX5_lengthsOf : List Cond := .code yX5_lengthsOf cX5_lengthsOf 2 (some .int) :: ([.methodLink RX5 50 yX5_ofSpan, .instanceMethod yX5_ofSpan, .selects RX5 yX5_ofSpan yX5_ofSpan, .initialized RX5, .code yX5_ofSpan cX5_ofSpan 3 (some .int), .fieldLink RX5 7 "HoseSpansModel" "now" "[I"] ++ wsX50)
def wsX5_hardOf : List Cond := .code yX5_hardOf cX5_hardOf 1 (some .int) :: ([])
def wsX5_standsOf : List Cond := .code yX5_standsOf cX5_standsOf 1 (some .int) :: ([])
def wsX5_lossOf : List Cond := .code yX5_lossOf cX5_lossOf 4 (some .int) :: ([.methodLink RX5 50 yX5_ofSpan, .instanceMethod yX5_ofSpan, .selects RX5 yX5_ofSpan yX5_ofSpan, .initialized RX5, .code yX5_ofSpan cX5_ofSpan 3 (some .int), .fieldLink RX5 7 "HoseSpansModel" "now" "[I", .methodLink RX5 54 yX5_hardOf, .static yX5_hardOf, .code yX5_hardOf cX5_hardOf 1 (some .int)] ++ wsX50)
def wsX5_fail : List Cond := .code yX5_fail cX5_fail 3 none :: ([.fieldLink RX5 58 "HoseSpansModel" "failsAt" "I", .fieldLink RX5 61 "HoseSpansModel" "how" "I"] ++ wsX50)
def wsX5_goOver : List Cond := .code yX5_goOver cX5_goOver 5 (some .int) :: ([.methodLink RX5 50 yX5_ofSpan, .instanceMethod yX5_ofSpan, .selects RX5 yX5_ofSpan yX5_ofSpan, .initialized RX5, .code yX5_ofSpan cX5_ofSpan 3 (some .int), .fieldLink RX5 7 "HoseSpansModel" "now" "[I", .methodLink RX5 64 yX5_fail, .instanceMethod yX5_fail, .selects RX5 yX5_fail yX5_fail, .code yX5_fail cX5_fail 3 none, .fieldLink RX5 58 "HoseSpansModel" "failsAt" "I", .fieldLink RX5 61 "HoseSpansModel" "how" "I", .methodLink RX5 68 yX5_standsOf, .static yX5_standsOf, .code yX5_standsOf cX5_standsOf 1 (some .int), .methodLink RX5 71 yX5_lossOf, .instanceMethod yX5_lossOf, .selects RX5 yX5_lossOf yX5_lossOf, .code yX5_lossOf cX5_lossOf 4 (some .int), .methodLink RX5 54 yX5_hardOf, .static yX5_hardOf, .code yX5_hardOf cX5_hardOf 1 (some .int)] ++ wsX50)
def wsX5_goRun_r1 : List Cond := [Cond.fieldLink RX5 25 "HoseSpansModel" "into" "[I", Cond.constant RX5 74 (-1000001), Cond.fieldLink RX5 28 "HoseSpansModel" "behind" "[I", Cond.fieldLink RX5 58 "HoseSpansModel" "failsAt" "I", Cond.fieldLink RX5 61 "HoseSpansModel" "how" "I", Cond.fieldLink RX5 75 "HoseSpansModel" "last" "I", Cond.fieldLink RX5 7 "HoseSpansModel" "now" "[I", Cond.methodLink RX5 78 yX5_has, Cond.static yX5_has, Cond.initialized RX5, Cond.code yX5_has cX5_has 2 (some .boolean), Cond.methodLink RX5 64 yX5_fail, Cond.instanceMethod yX5_fail, Cond.selects RX5 yX5_fail yX5_fail, Cond.code yX5_fail cX5_fail 3 none, Cond.methodLink RX5 82 yX5_goOver, Cond.instanceMethod yX5_goOver, Cond.selects RX5 yX5_goOver yX5_goOver, Cond.code yX5_goOver cX5_goOver 5 (some .int), Cond.methodLink RX5 50 yX5_ofSpan, Cond.instanceMethod yX5_ofSpan, Cond.selects RX5 yX5_ofSpan yX5_ofSpan, Cond.code yX5_ofSpan cX5_ofSpan 3 (some .int), Cond.methodLink RX5 68 yX5_standsOf]
def wsX5_goRun_r2 : List Cond := [Cond.static yX5_standsOf, Cond.code yX5_standsOf cX5_standsOf 1 (some .int), Cond.methodLink RX5 71 yX5_lossOf, Cond.instanceMethod yX5_lossOf, Cond.selects RX5 yX5_lossOf yX5_lossOf, Cond.code yX5_lossOf cX5_lossOf 4 (some .int), Cond.methodLink RX5 54 yX5_hardOf, Cond.static yX5_hardOf, Cond.code yX5_hardOf cX5_hardOf 1 (some .int)]
def wsX5_goRun : List Cond := .code yX5_goRun cX5_goRun 5 (some .boolean) :: ((wsX5_goRun_r1 ++ wsX5_goRun_r2) ++ wsX50)
def wsX5_findFewest_r1 : List Cond := [Cond.constant RX5 74 (-1000001), Cond.fieldLink RX5 86 "HoseSpansModel" "fewestSet" "I", Cond.fieldLink RX5 7 "HoseSpansModel" "now" "[I", Cond.methodLink RX5 89 yX5_ones, Cond.static yX5_ones, Cond.initialized RX5, Cond.code yX5_ones cX5_ones 3 (some .int), Cond.methodLink RX5 92 yX5_goRun, Cond.instanceMethod yX5_goRun, Cond.selects RX5 yX5_goRun yX5_goRun, Cond.code yX5_goRun cX5_goRun 5 (some .boolean), Cond.fieldLink RX5 25 "HoseSpansModel" "into" "[I", Cond.fieldLink RX5 28 "HoseSpansModel" "behind" "[I", Cond.fieldLink RX5 58 "HoseSpansModel" "failsAt" "I", Cond.fieldLink RX5 61 "HoseSpansModel" "how" "I", Cond.fieldLink RX5 75 "HoseSpansModel" "last" "I", Cond.methodLink RX5 78 yX5_has, Cond.static yX5_has, Cond.code yX5_has cX5_has 2 (some .boolean), Cond.methodLink RX5 64 yX5_fail, Cond.instanceMethod yX5_fail, Cond.selects RX5 yX5_fail yX5_fail, Cond.code yX5_fail cX5_fail 3 none, Cond.methodLink RX5 82 yX5_goOver]
def wsX5_findFewest_r2 : List Cond := [Cond.instanceMethod yX5_goOver, Cond.selects RX5 yX5_goOver yX5_goOver, Cond.code yX5_goOver cX5_goOver 5 (some .int), Cond.methodLink RX5 50 yX5_ofSpan, Cond.instanceMethod yX5_ofSpan, Cond.selects RX5 yX5_ofSpan yX5_ofSpan, Cond.code yX5_ofSpan cX5_ofSpan 3 (some .int), Cond.methodLink RX5 68 yX5_standsOf, Cond.static yX5_standsOf, Cond.code yX5_standsOf cX5_standsOf 1 (some .int), Cond.methodLink RX5 71 yX5_lossOf, Cond.instanceMethod yX5_lossOf, Cond.selects RX5 yX5_lossOf yX5_lossOf, Cond.code yX5_lossOf cX5_lossOf 4 (some .int), Cond.methodLink RX5 54 yX5_hardOf, Cond.static yX5_hardOf, Cond.code yX5_hardOf cX5_hardOf 1 (some .int)]
def wsX5_findFewest : List Cond := .code yX5_findFewest cX5_findFewest 4 (some .boolean) :: ((wsX5_findFewest_r1 ++ wsX5_findFewest_r2) ++ wsX50)
def wsX5_fewestOf_r1 : List Cond := [Cond.constant RX5 74 (-1000001), Cond.fieldLink RX5 86 "HoseSpansModel" "fewestSet" "I", Cond.methodLink RX5 95 yX5_findFewest, Cond.instanceMethod yX5_findFewest, Cond.selects RX5 yX5_findFewest yX5_findFewest, Cond.initialized RX5, Cond.code yX5_findFewest cX5_findFewest 4 (some .boolean), Cond.fieldLink RX5 7 "HoseSpansModel" "now" "[I", Cond.methodLink RX5 89 yX5_ones, Cond.static yX5_ones, Cond.code yX5_ones cX5_ones 3 (some .int), Cond.methodLink RX5 92 yX5_goRun, Cond.instanceMethod yX5_goRun, Cond.selects RX5 yX5_goRun yX5_goRun, Cond.code yX5_goRun cX5_goRun 5 (some .boolean), Cond.fieldLink RX5 25 "HoseSpansModel" "into" "[I", Cond.fieldLink RX5 28 "HoseSpansModel" "behind" "[I", Cond.fieldLink RX5 58 "HoseSpansModel" "failsAt" "I", Cond.fieldLink RX5 61 "HoseSpansModel" "how" "I", Cond.fieldLink RX5 75 "HoseSpansModel" "last" "I", Cond.methodLink RX5 78 yX5_has, Cond.static yX5_has, Cond.code yX5_has cX5_has 2 (some .boolean), Cond.methodLink RX5 64 yX5_fail]
def wsX5_fewestOf_r2 : List Cond := [Cond.instanceMethod yX5_fail, Cond.selects RX5 yX5_fail yX5_fail, Cond.code yX5_fail cX5_fail 3 none, Cond.methodLink RX5 82 yX5_goOver, Cond.instanceMethod yX5_goOver, Cond.selects RX5 yX5_goOver yX5_goOver, Cond.code yX5_goOver cX5_goOver 5 (some .int), Cond.methodLink RX5 50 yX5_ofSpan, Cond.instanceMethod yX5_ofSpan, Cond.selects RX5 yX5_ofSpan yX5_ofSpan, Cond.code yX5_ofSpan cX5_ofSpan 3 (some .int), Cond.methodLink RX5 68 yX5_standsOf, Cond.static yX5_standsOf, Cond.code yX5_standsOf cX5_standsOf 1 (some .int), Cond.methodLink RX5 71 yX5_lossOf, Cond.instanceMethod yX5_lossOf, Cond.selects RX5 yX5_lossOf yX5_lossOf, Cond.code yX5_lossOf cX5_lossOf 4 (some .int), Cond.methodLink RX5 54 yX5_hardOf, Cond.static yX5_hardOf, Cond.code yX5_hardOf cX5_hardOf 1 (some .int)]
def wsX5_fewestOf : List Cond := .code yX5_fewestOf cX5_fewestOf 4 (some .int) :: ((wsX5_fewestOf_r1 ++ wsX5_fewestOf_r2) ++ wsX50)
def wsX5_mostNow_r1 : List Cond := [Cond.constant RX5 74 (-1000001), Cond.fieldLink RX5 7 "HoseSpansModel" "now" "[I", Cond.methodLink RX5 92 yX5_goRun, Cond.instanceMethod yX5_goRun, Cond.selects RX5 yX5_goRun yX5_goRun, Cond.initialized RX5, Cond.code yX5_goRun cX5_goRun 5 (some .boolean), Cond.fieldLink RX5 25 "HoseSpansModel" "into" "[I", Cond.fieldLink RX5 28 "HoseSpansModel" "behind" "[I", Cond.fieldLink RX5 58 "HoseSpansModel" "failsAt" "I", Cond.fieldLink RX5 61 "HoseSpansModel" "how" "I", Cond.fieldLink RX5 75 "HoseSpansModel" "last" "I", Cond.methodLink RX5 78 yX5_has, Cond.static yX5_has, Cond.code yX5_has cX5_has 2 (some .boolean), Cond.methodLink RX5 64 yX5_fail, Cond.instanceMethod yX5_fail, Cond.selects RX5 yX5_fail yX5_fail, Cond.code yX5_fail cX5_fail 3 none, Cond.methodLink RX5 82 yX5_goOver, Cond.instanceMethod yX5_goOver, Cond.selects RX5 yX5_goOver yX5_goOver, Cond.code yX5_goOver cX5_goOver 5 (some .int), Cond.methodLink RX5 50 yX5_ofSpan]
def wsX5_mostNow_r2 : List Cond := [Cond.instanceMethod yX5_ofSpan, Cond.selects RX5 yX5_ofSpan yX5_ofSpan, Cond.code yX5_ofSpan cX5_ofSpan 3 (some .int), Cond.methodLink RX5 68 yX5_standsOf, Cond.static yX5_standsOf, Cond.code yX5_standsOf cX5_standsOf 1 (some .int), Cond.methodLink RX5 71 yX5_lossOf, Cond.instanceMethod yX5_lossOf, Cond.selects RX5 yX5_lossOf yX5_lossOf, Cond.code yX5_lossOf cX5_lossOf 4 (some .int), Cond.methodLink RX5 54 yX5_hardOf, Cond.static yX5_hardOf, Cond.code yX5_hardOf cX5_hardOf 1 (some .int)]
def wsX5_mostNow : List Cond := .code yX5_mostNow cX5_mostNow 3 (some .int) :: ((wsX5_mostNow_r1 ++ wsX5_mostNow_r2) ++ wsX50)
def wsX5_leastOf : List Cond := .code yX5_leastOf cX5_leastOf 1 (some .int) :: ([])
def wsX5_mostOf : List Cond := .code yX5_mostOf cX5_mostOf 1 (some .int) :: ([])
def wsX5_say : List Cond := .code yX5_say cX5_say 5 none :: ([.fieldLink RX5 31 "HoseSpansModel" "said" "[I"] ++ wsX50)
def wsX5_barSpan : List Cond := .code yX5_barSpan cX5_barSpan 2 (some .int) :: ([.fieldLink RX5 31 "HoseSpansModel" "said" "[I", .constant RX5 37 (-1000002), .fieldLink RX5 7 "HoseSpansModel" "now" "[I", .constant RX5 99 (-1000004), .methodLink RX5 46 yX5_in, .static yX5_in, .initialized RX5, .code yX5_in cX5_in 3 (some .boolean)] ++ wsX50)
def wsX5_barMend : List Cond := .code yX5_barMend cX5_barMend 2 (some .int) :: ([.fieldLink RX5 31 "HoseSpansModel" "said" "[I", .constant RX5 37 (-1000002), .fieldLink RX5 7 "HoseSpansModel" "now" "[I", .constant RX5 106 (-1000003), .methodLink RX5 100 yX5_isSpan, .instanceMethod yX5_isSpan, .selects RX5 yX5_isSpan yX5_isSpan, .initialized RX5, .code yX5_isSpan cX5_isSpan 2 (some .boolean), .methodLink RX5 46 yX5_in, .static yX5_in, .code yX5_in cX5_in 3 (some .boolean), .methodLink RX5 50 yX5_ofSpan, .instanceMethod yX5_ofSpan, .selects RX5 yX5_ofSpan yX5_ofSpan, .code yX5_ofSpan cX5_ofSpan 3 (some .int), .methodLink RX5 103 yX5_lengthsOf, .instanceMethod yX5_lengthsOf, .selects RX5 yX5_lengthsOf yX5_lengthsOf, .code yX5_lengthsOf cX5_lengthsOf 2 (some .int)] ++ wsX50)
def wsX5_barOf_r1 : List Cond := [Cond.fieldLink RX5 31 "HoseSpansModel" "said" "[I", Cond.constant RX5 37 (-1000002), Cond.fieldLink RX5 7 "HoseSpansModel" "now" "[I", Cond.constant RX5 106 (-1000003), Cond.methodLink RX5 107 yX5_barSpan, Cond.instanceMethod yX5_barSpan, Cond.selects RX5 yX5_barSpan yX5_barSpan, Cond.initialized RX5, Cond.code yX5_barSpan cX5_barSpan 2 (some .int), Cond.constant RX5 99 (-1000004), Cond.methodLink RX5 46 yX5_in, Cond.static yX5_in, Cond.code yX5_in cX5_in 3 (some .boolean), Cond.methodLink RX5 111 yX5_leastOf, Cond.static yX5_leastOf, Cond.code yX5_leastOf cX5_leastOf 1 (some .int), Cond.methodLink RX5 114 yX5_mostOf, Cond.static yX5_mostOf, Cond.code yX5_mostOf cX5_mostOf 1 (some .int), Cond.methodLink RX5 117 yX5_isNode, Cond.instanceMethod yX5_isNode, Cond.selects RX5 yX5_isNode yX5_isNode, Cond.code yX5_isNode cX5_isNode 2 (some .boolean), Cond.methodLink RX5 100 yX5_isSpan]
def wsX5_barOf_r2 : List Cond := [Cond.instanceMethod yX5_isSpan, Cond.selects RX5 yX5_isSpan yX5_isSpan, Cond.code yX5_isSpan cX5_isSpan 2 (some .boolean), Cond.methodLink RX5 120 yX5_barMend, Cond.instanceMethod yX5_barMend, Cond.selects RX5 yX5_barMend yX5_barMend, Cond.code yX5_barMend cX5_barMend 2 (some .int), Cond.methodLink RX5 50 yX5_ofSpan, Cond.instanceMethod yX5_ofSpan, Cond.selects RX5 yX5_ofSpan yX5_ofSpan, Cond.code yX5_ofSpan cX5_ofSpan 3 (some .int), Cond.methodLink RX5 103 yX5_lengthsOf, Cond.instanceMethod yX5_lengthsOf, Cond.selects RX5 yX5_lengthsOf yX5_lengthsOf, Cond.code yX5_lengthsOf cX5_lengthsOf 2 (some .int)]
def wsX5_barOf : List Cond := .code yX5_barOf cX5_barOf 2 (some .int) :: ((wsX5_barOf_r1 ++ wsX5_barOf_r2) ++ wsX50)
def wsX5_doSpan : List Cond := .code yX5_doSpan cX5_doSpan 3 (some .int) :: ([.fieldLink RX5 7 "HoseSpansModel" "now" "[I", .fieldLink RX5 31 "HoseSpansModel" "said" "[I"] ++ wsX50)
def wsX5_act : List Cond := .code yX5_act cX5_act 4 (some .int) :: ([.fieldLink RX5 31 "HoseSpansModel" "said" "[I", .fieldLink RX5 7 "HoseSpansModel" "now" "[I", .methodLink RX5 123 yX5_doSpan, .instanceMethod yX5_doSpan, .selects RX5 yX5_doSpan yX5_doSpan, .initialized RX5, .code yX5_doSpan cX5_doSpan 3 (some .int), .methodLink RX5 89 yX5_ones, .static yX5_ones, .code yX5_ones cX5_ones 3 (some .int), .methodLink RX5 50 yX5_ofSpan, .instanceMethod yX5_ofSpan, .selects RX5 yX5_ofSpan yX5_ofSpan, .code yX5_ofSpan cX5_ofSpan 3 (some .int), .methodLink RX5 103 yX5_lengthsOf, .instanceMethod yX5_lengthsOf, .selects RX5 yX5_lengthsOf yX5_lengthsOf, .code yX5_lengthsOf cX5_lengthsOf 2 (some .int)] ++ wsX50)
def wsX5_call_r1 : List Cond := [Cond.methodLink RX5 126 yX5_barOf, Cond.instanceMethod yX5_barOf, Cond.selects RX5 yX5_barOf yX5_barOf, Cond.initialized RX5, Cond.code yX5_barOf cX5_barOf 2 (some .int), Cond.fieldLink RX5 31 "HoseSpansModel" "said" "[I", Cond.constant RX5 37 (-1000002), Cond.fieldLink RX5 7 "HoseSpansModel" "now" "[I", Cond.constant RX5 106 (-1000003), Cond.methodLink RX5 107 yX5_barSpan, Cond.instanceMethod yX5_barSpan, Cond.selects RX5 yX5_barSpan yX5_barSpan, Cond.code yX5_barSpan cX5_barSpan 2 (some .int), Cond.constant RX5 99 (-1000004), Cond.methodLink RX5 46 yX5_in, Cond.static yX5_in, Cond.code yX5_in cX5_in 3 (some .boolean), Cond.methodLink RX5 111 yX5_leastOf, Cond.static yX5_leastOf, Cond.code yX5_leastOf cX5_leastOf 1 (some .int), Cond.methodLink RX5 114 yX5_mostOf, Cond.static yX5_mostOf, Cond.code yX5_mostOf cX5_mostOf 1 (some .int), Cond.methodLink RX5 117 yX5_isNode]
def wsX5_call_r2 : List Cond := [Cond.instanceMethod yX5_isNode, Cond.selects RX5 yX5_isNode yX5_isNode, Cond.code yX5_isNode cX5_isNode 2 (some .boolean), Cond.methodLink RX5 100 yX5_isSpan, Cond.instanceMethod yX5_isSpan, Cond.selects RX5 yX5_isSpan yX5_isSpan, Cond.code yX5_isSpan cX5_isSpan 2 (some .boolean), Cond.methodLink RX5 120 yX5_barMend, Cond.instanceMethod yX5_barMend, Cond.selects RX5 yX5_barMend yX5_barMend, Cond.code yX5_barMend cX5_barMend 2 (some .int), Cond.methodLink RX5 50 yX5_ofSpan, Cond.instanceMethod yX5_ofSpan, Cond.selects RX5 yX5_ofSpan yX5_ofSpan, Cond.code yX5_ofSpan cX5_ofSpan 3 (some .int), Cond.methodLink RX5 103 yX5_lengthsOf, Cond.instanceMethod yX5_lengthsOf, Cond.selects RX5 yX5_lengthsOf yX5_lengthsOf, Cond.code yX5_lengthsOf cX5_lengthsOf 2 (some .int), Cond.methodLink RX5 129 yX5_refuse, Cond.instanceMethod yX5_refuse, Cond.selects RX5 yX5_refuse yX5_refuse, Cond.code yX5_refuse cX5_refuse 2 (some .int), Cond.fieldLink RX5 19 "HoseSpansModel" "refused" "[I"]
def wsX5_call_r3 : List Cond := [Cond.methodLink RX5 132 yX5_note, Cond.instanceMethod yX5_note, Cond.selects RX5 yX5_note yX5_note, Cond.code yX5_note cX5_note 2 none, Cond.fieldLink RX5 38 "HoseSpansModel" "states" "I", Cond.fieldLink RX5 16 "HoseSpansModel" "past" "[I", Cond.methodLink RX5 42 yX5_bring, Cond.static yX5_bring, Cond.code yX5_bring cX5_bring 5 none, Cond.methodLink RX5 135 yX5_act, Cond.instanceMethod yX5_act, Cond.selects RX5 yX5_act yX5_act, Cond.code yX5_act cX5_act 4 (some .int), Cond.methodLink RX5 123 yX5_doSpan, Cond.instanceMethod yX5_doSpan, Cond.selects RX5 yX5_doSpan yX5_doSpan, Cond.code yX5_doSpan cX5_doSpan 3 (some .int), Cond.methodLink RX5 89 yX5_ones, Cond.static yX5_ones, Cond.code yX5_ones cX5_ones 3 (some .int)]
def wsX5_call : List Cond := .code yX5_call cX5_call 3 (some .int) :: ((wsX5_call_r1 ++ (wsX5_call_r2 ++ wsX5_call_r3)) ++ wsX50)
def wsX5_span_r1 : List Cond := [Cond.methodLink RX5 138 yX5_say, Cond.instanceMethod yX5_say, Cond.selects RX5 yX5_say yX5_say, Cond.initialized RX5, Cond.code yX5_say cX5_say 5 none, Cond.fieldLink RX5 31 "HoseSpansModel" "said" "[I", Cond.methodLink RX5 142 yX5_call, Cond.instanceMethod yX5_call, Cond.selects RX5 yX5_call yX5_call, Cond.code yX5_call cX5_call 3 (some .int), Cond.methodLink RX5 126 yX5_barOf, Cond.instanceMethod yX5_barOf, Cond.selects RX5 yX5_barOf yX5_barOf, Cond.code yX5_barOf cX5_barOf 2 (some .int), Cond.constant RX5 37 (-1000002), Cond.fieldLink RX5 7 "HoseSpansModel" "now" "[I", Cond.constant RX5 106 (-1000003), Cond.methodLink RX5 107 yX5_barSpan, Cond.instanceMethod yX5_barSpan, Cond.selects RX5 yX5_barSpan yX5_barSpan, Cond.code yX5_barSpan cX5_barSpan 2 (some .int), Cond.constant RX5 99 (-1000004), Cond.methodLink RX5 46 yX5_in, Cond.static yX5_in]
def wsX5_span_r2 : List Cond := [Cond.code yX5_in cX5_in 3 (some .boolean), Cond.methodLink RX5 111 yX5_leastOf, Cond.static yX5_leastOf, Cond.code yX5_leastOf cX5_leastOf 1 (some .int), Cond.methodLink RX5 114 yX5_mostOf, Cond.static yX5_mostOf, Cond.code yX5_mostOf cX5_mostOf 1 (some .int), Cond.methodLink RX5 117 yX5_isNode, Cond.instanceMethod yX5_isNode, Cond.selects RX5 yX5_isNode yX5_isNode, Cond.code yX5_isNode cX5_isNode 2 (some .boolean), Cond.methodLink RX5 100 yX5_isSpan, Cond.instanceMethod yX5_isSpan, Cond.selects RX5 yX5_isSpan yX5_isSpan, Cond.code yX5_isSpan cX5_isSpan 2 (some .boolean), Cond.methodLink RX5 120 yX5_barMend, Cond.instanceMethod yX5_barMend, Cond.selects RX5 yX5_barMend yX5_barMend, Cond.code yX5_barMend cX5_barMend 2 (some .int), Cond.methodLink RX5 50 yX5_ofSpan, Cond.instanceMethod yX5_ofSpan, Cond.selects RX5 yX5_ofSpan yX5_ofSpan, Cond.code yX5_ofSpan cX5_ofSpan 3 (some .int), Cond.methodLink RX5 103 yX5_lengthsOf]
def wsX5_span_r3 : List Cond := [Cond.instanceMethod yX5_lengthsOf, Cond.selects RX5 yX5_lengthsOf yX5_lengthsOf, Cond.code yX5_lengthsOf cX5_lengthsOf 2 (some .int), Cond.methodLink RX5 129 yX5_refuse, Cond.instanceMethod yX5_refuse, Cond.selects RX5 yX5_refuse yX5_refuse, Cond.code yX5_refuse cX5_refuse 2 (some .int), Cond.fieldLink RX5 19 "HoseSpansModel" "refused" "[I", Cond.methodLink RX5 132 yX5_note, Cond.instanceMethod yX5_note, Cond.selects RX5 yX5_note yX5_note, Cond.code yX5_note cX5_note 2 none, Cond.fieldLink RX5 38 "HoseSpansModel" "states" "I", Cond.fieldLink RX5 16 "HoseSpansModel" "past" "[I", Cond.methodLink RX5 42 yX5_bring, Cond.static yX5_bring, Cond.code yX5_bring cX5_bring 5 none, Cond.methodLink RX5 135 yX5_act, Cond.instanceMethod yX5_act, Cond.selects RX5 yX5_act yX5_act, Cond.code yX5_act cX5_act 4 (some .int), Cond.methodLink RX5 123 yX5_doSpan, Cond.instanceMethod yX5_doSpan, Cond.selects RX5 yX5_doSpan yX5_doSpan]
def wsX5_span_r4 : List Cond := [Cond.code yX5_doSpan cX5_doSpan 3 (some .int), Cond.methodLink RX5 89 yX5_ones, Cond.static yX5_ones, Cond.code yX5_ones cX5_ones 3 (some .int)]
def wsX5_span : List Cond := .code yX5_span cX5_span 5 (some .int) :: ((wsX5_span_r1 ++ (wsX5_span_r2 ++ (wsX5_span_r3 ++ wsX5_span_r4))) ++ wsX50)
def wsX5_cuts_r1 : List Cond := [Cond.methodLink RX5 142 yX5_call, Cond.instanceMethod yX5_call, Cond.selects RX5 yX5_call yX5_call, Cond.initialized RX5, Cond.code yX5_call cX5_call 3 (some .int), Cond.methodLink RX5 126 yX5_barOf, Cond.instanceMethod yX5_barOf, Cond.selects RX5 yX5_barOf yX5_barOf, Cond.code yX5_barOf cX5_barOf 2 (some .int), Cond.fieldLink RX5 31 "HoseSpansModel" "said" "[I", Cond.constant RX5 37 (-1000002), Cond.fieldLink RX5 7 "HoseSpansModel" "now" "[I", Cond.constant RX5 106 (-1000003), Cond.methodLink RX5 107 yX5_barSpan, Cond.instanceMethod yX5_barSpan, Cond.selects RX5 yX5_barSpan yX5_barSpan, Cond.code yX5_barSpan cX5_barSpan 2 (some .int), Cond.constant RX5 99 (-1000004), Cond.methodLink RX5 46 yX5_in, Cond.static yX5_in, Cond.code yX5_in cX5_in 3 (some .boolean), Cond.methodLink RX5 111 yX5_leastOf, Cond.static yX5_leastOf, Cond.code yX5_leastOf cX5_leastOf 1 (some .int)]
def wsX5_cuts_r2 : List Cond := [Cond.methodLink RX5 114 yX5_mostOf, Cond.static yX5_mostOf, Cond.code yX5_mostOf cX5_mostOf 1 (some .int), Cond.methodLink RX5 117 yX5_isNode, Cond.instanceMethod yX5_isNode, Cond.selects RX5 yX5_isNode yX5_isNode, Cond.code yX5_isNode cX5_isNode 2 (some .boolean), Cond.methodLink RX5 100 yX5_isSpan, Cond.instanceMethod yX5_isSpan, Cond.selects RX5 yX5_isSpan yX5_isSpan, Cond.code yX5_isSpan cX5_isSpan 2 (some .boolean), Cond.methodLink RX5 120 yX5_barMend, Cond.instanceMethod yX5_barMend, Cond.selects RX5 yX5_barMend yX5_barMend, Cond.code yX5_barMend cX5_barMend 2 (some .int), Cond.methodLink RX5 50 yX5_ofSpan, Cond.instanceMethod yX5_ofSpan, Cond.selects RX5 yX5_ofSpan yX5_ofSpan, Cond.code yX5_ofSpan cX5_ofSpan 3 (some .int), Cond.methodLink RX5 103 yX5_lengthsOf, Cond.instanceMethod yX5_lengthsOf, Cond.selects RX5 yX5_lengthsOf yX5_lengthsOf, Cond.code yX5_lengthsOf cX5_lengthsOf 2 (some .int), Cond.methodLink RX5 129 yX5_refuse]
def wsX5_cuts_r3 : List Cond := [Cond.instanceMethod yX5_refuse, Cond.selects RX5 yX5_refuse yX5_refuse, Cond.code yX5_refuse cX5_refuse 2 (some .int), Cond.fieldLink RX5 19 "HoseSpansModel" "refused" "[I", Cond.methodLink RX5 132 yX5_note, Cond.instanceMethod yX5_note, Cond.selects RX5 yX5_note yX5_note, Cond.code yX5_note cX5_note 2 none, Cond.fieldLink RX5 38 "HoseSpansModel" "states" "I", Cond.fieldLink RX5 16 "HoseSpansModel" "past" "[I", Cond.methodLink RX5 42 yX5_bring, Cond.static yX5_bring, Cond.code yX5_bring cX5_bring 5 none, Cond.methodLink RX5 135 yX5_act, Cond.instanceMethod yX5_act, Cond.selects RX5 yX5_act yX5_act, Cond.code yX5_act cX5_act 4 (some .int), Cond.methodLink RX5 123 yX5_doSpan, Cond.instanceMethod yX5_doSpan, Cond.selects RX5 yX5_doSpan yX5_doSpan, Cond.code yX5_doSpan cX5_doSpan 3 (some .int), Cond.methodLink RX5 89 yX5_ones, Cond.static yX5_ones, Cond.code yX5_ones cX5_ones 3 (some .int)]
def wsX5_cuts : List Cond := .code yX5_cuts cX5_cuts 1 (some .int) :: ((wsX5_cuts_r1 ++ (wsX5_cuts_r2 ++ wsX5_cuts_r3)) ++ wsX50)
def wsX5_sets_r1 : List Cond := [Cond.methodLink RX5 138 yX5_say, Cond.instanceMethod yX5_say, Cond.selects RX5 yX5_say yX5_say, Cond.initialized RX5, Cond.code yX5_say cX5_say 5 none, Cond.fieldLink RX5 31 "HoseSpansModel" "said" "[I", Cond.methodLink RX5 142 yX5_call, Cond.instanceMethod yX5_call, Cond.selects RX5 yX5_call yX5_call, Cond.code yX5_call cX5_call 3 (some .int), Cond.methodLink RX5 126 yX5_barOf, Cond.instanceMethod yX5_barOf, Cond.selects RX5 yX5_barOf yX5_barOf, Cond.code yX5_barOf cX5_barOf 2 (some .int), Cond.constant RX5 37 (-1000002), Cond.fieldLink RX5 7 "HoseSpansModel" "now" "[I", Cond.constant RX5 106 (-1000003), Cond.methodLink RX5 107 yX5_barSpan, Cond.instanceMethod yX5_barSpan, Cond.selects RX5 yX5_barSpan yX5_barSpan, Cond.code yX5_barSpan cX5_barSpan 2 (some .int), Cond.constant RX5 99 (-1000004), Cond.methodLink RX5 46 yX5_in, Cond.static yX5_in]
def wsX5_sets_r2 : List Cond := [Cond.code yX5_in cX5_in 3 (some .boolean), Cond.methodLink RX5 111 yX5_leastOf, Cond.static yX5_leastOf, Cond.code yX5_leastOf cX5_leastOf 1 (some .int), Cond.methodLink RX5 114 yX5_mostOf, Cond.static yX5_mostOf, Cond.code yX5_mostOf cX5_mostOf 1 (some .int), Cond.methodLink RX5 117 yX5_isNode, Cond.instanceMethod yX5_isNode, Cond.selects RX5 yX5_isNode yX5_isNode, Cond.code yX5_isNode cX5_isNode 2 (some .boolean), Cond.methodLink RX5 100 yX5_isSpan, Cond.instanceMethod yX5_isSpan, Cond.selects RX5 yX5_isSpan yX5_isSpan, Cond.code yX5_isSpan cX5_isSpan 2 (some .boolean), Cond.methodLink RX5 120 yX5_barMend, Cond.instanceMethod yX5_barMend, Cond.selects RX5 yX5_barMend yX5_barMend, Cond.code yX5_barMend cX5_barMend 2 (some .int), Cond.methodLink RX5 50 yX5_ofSpan, Cond.instanceMethod yX5_ofSpan, Cond.selects RX5 yX5_ofSpan yX5_ofSpan, Cond.code yX5_ofSpan cX5_ofSpan 3 (some .int), Cond.methodLink RX5 103 yX5_lengthsOf]
def wsX5_sets_r3 : List Cond := [Cond.instanceMethod yX5_lengthsOf, Cond.selects RX5 yX5_lengthsOf yX5_lengthsOf, Cond.code yX5_lengthsOf cX5_lengthsOf 2 (some .int), Cond.methodLink RX5 129 yX5_refuse, Cond.instanceMethod yX5_refuse, Cond.selects RX5 yX5_refuse yX5_refuse, Cond.code yX5_refuse cX5_refuse 2 (some .int), Cond.fieldLink RX5 19 "HoseSpansModel" "refused" "[I", Cond.methodLink RX5 132 yX5_note, Cond.instanceMethod yX5_note, Cond.selects RX5 yX5_note yX5_note, Cond.code yX5_note cX5_note 2 none, Cond.fieldLink RX5 38 "HoseSpansModel" "states" "I", Cond.fieldLink RX5 16 "HoseSpansModel" "past" "[I", Cond.methodLink RX5 42 yX5_bring, Cond.static yX5_bring, Cond.code yX5_bring cX5_bring 5 none, Cond.methodLink RX5 135 yX5_act, Cond.instanceMethod yX5_act, Cond.selects RX5 yX5_act yX5_act, Cond.code yX5_act cX5_act 4 (some .int), Cond.methodLink RX5 123 yX5_doSpan, Cond.instanceMethod yX5_doSpan, Cond.selects RX5 yX5_doSpan yX5_doSpan]
def wsX5_sets_r4 : List Cond := [Cond.code yX5_doSpan cX5_doSpan 3 (some .int), Cond.methodLink RX5 89 yX5_ones, Cond.static yX5_ones, Cond.code yX5_ones cX5_ones 3 (some .int)]
def wsX5_sets : List Cond := .code yX5_sets cX5_sets 3 (some .int) :: ((wsX5_sets_r1 ++ (wsX5_sets_r2 ++ (wsX5_sets_r3 ++ wsX5_sets_r4))) ++ wsX50)
def wsX5_pumps_r1 : List Cond := [Cond.methodLink RX5 138 yX5_say, Cond.instanceMethod yX5_say, Cond.selects RX5 yX5_say yX5_say, Cond.initialized RX5, Cond.code yX5_say cX5_say 5 none, Cond.fieldLink RX5 31 "HoseSpansModel" "said" "[I", Cond.methodLink RX5 142 yX5_call, Cond.instanceMethod yX5_call, Cond.selects RX5 yX5_call yX5_call, Cond.code yX5_call cX5_call 3 (some .int), Cond.methodLink RX5 126 yX5_barOf, Cond.instanceMethod yX5_barOf, Cond.selects RX5 yX5_barOf yX5_barOf, Cond.code yX5_barOf cX5_barOf 2 (some .int), Cond.constant RX5 37 (-1000002), Cond.fieldLink RX5 7 "HoseSpansModel" "now" "[I", Cond.constant RX5 106 (-1000003), Cond.methodLink RX5 107 yX5_barSpan, Cond.instanceMethod yX5_barSpan, Cond.selects RX5 yX5_barSpan yX5_barSpan, Cond.code yX5_barSpan cX5_barSpan 2 (some .int), Cond.constant RX5 99 (-1000004), Cond.methodLink RX5 46 yX5_in, Cond.static yX5_in]
def wsX5_pumps_r2 : List Cond := [Cond.code yX5_in cX5_in 3 (some .boolean), Cond.methodLink RX5 111 yX5_leastOf, Cond.static yX5_leastOf, Cond.code yX5_leastOf cX5_leastOf 1 (some .int), Cond.methodLink RX5 114 yX5_mostOf, Cond.static yX5_mostOf, Cond.code yX5_mostOf cX5_mostOf 1 (some .int), Cond.methodLink RX5 117 yX5_isNode, Cond.instanceMethod yX5_isNode, Cond.selects RX5 yX5_isNode yX5_isNode, Cond.code yX5_isNode cX5_isNode 2 (some .boolean), Cond.methodLink RX5 100 yX5_isSpan, Cond.instanceMethod yX5_isSpan, Cond.selects RX5 yX5_isSpan yX5_isSpan, Cond.code yX5_isSpan cX5_isSpan 2 (some .boolean), Cond.methodLink RX5 120 yX5_barMend, Cond.instanceMethod yX5_barMend, Cond.selects RX5 yX5_barMend yX5_barMend, Cond.code yX5_barMend cX5_barMend 2 (some .int), Cond.methodLink RX5 50 yX5_ofSpan, Cond.instanceMethod yX5_ofSpan, Cond.selects RX5 yX5_ofSpan yX5_ofSpan, Cond.code yX5_ofSpan cX5_ofSpan 3 (some .int), Cond.methodLink RX5 103 yX5_lengthsOf]
def wsX5_pumps_r3 : List Cond := [Cond.instanceMethod yX5_lengthsOf, Cond.selects RX5 yX5_lengthsOf yX5_lengthsOf, Cond.code yX5_lengthsOf cX5_lengthsOf 2 (some .int), Cond.methodLink RX5 129 yX5_refuse, Cond.instanceMethod yX5_refuse, Cond.selects RX5 yX5_refuse yX5_refuse, Cond.code yX5_refuse cX5_refuse 2 (some .int), Cond.fieldLink RX5 19 "HoseSpansModel" "refused" "[I", Cond.methodLink RX5 132 yX5_note, Cond.instanceMethod yX5_note, Cond.selects RX5 yX5_note yX5_note, Cond.code yX5_note cX5_note 2 none, Cond.fieldLink RX5 38 "HoseSpansModel" "states" "I", Cond.fieldLink RX5 16 "HoseSpansModel" "past" "[I", Cond.methodLink RX5 42 yX5_bring, Cond.static yX5_bring, Cond.code yX5_bring cX5_bring 5 none, Cond.methodLink RX5 135 yX5_act, Cond.instanceMethod yX5_act, Cond.selects RX5 yX5_act yX5_act, Cond.code yX5_act cX5_act 4 (some .int), Cond.methodLink RX5 123 yX5_doSpan, Cond.instanceMethod yX5_doSpan, Cond.selects RX5 yX5_doSpan yX5_doSpan]
def wsX5_pumps_r4 : List Cond := [Cond.code yX5_doSpan cX5_doSpan 3 (some .int), Cond.methodLink RX5 89 yX5_ones, Cond.static yX5_ones, Cond.code yX5_ones cX5_ones 3 (some .int)]
def wsX5_pumps : List Cond := .code yX5_pumps cX5_pumps 2 (some .int) :: ((wsX5_pumps_r1 ++ (wsX5_pumps_r2 ++ (wsX5_pumps_r3 ++ wsX5_pumps_r4))) ++ wsX50)
def wsX5_bursts_r1 : List Cond := [Cond.methodLink RX5 138 yX5_say, Cond.instanceMethod yX5_say, Cond.selects RX5 yX5_say yX5_say, Cond.initialized RX5, Cond.code yX5_say cX5_say 5 none, Cond.fieldLink RX5 31 "HoseSpansModel" "said" "[I", Cond.methodLink RX5 142 yX5_call, Cond.instanceMethod yX5_call, Cond.selects RX5 yX5_call yX5_call, Cond.code yX5_call cX5_call 3 (some .int), Cond.methodLink RX5 126 yX5_barOf, Cond.instanceMethod yX5_barOf, Cond.selects RX5 yX5_barOf yX5_barOf, Cond.code yX5_barOf cX5_barOf 2 (some .int), Cond.constant RX5 37 (-1000002), Cond.fieldLink RX5 7 "HoseSpansModel" "now" "[I", Cond.constant RX5 106 (-1000003), Cond.methodLink RX5 107 yX5_barSpan, Cond.instanceMethod yX5_barSpan, Cond.selects RX5 yX5_barSpan yX5_barSpan, Cond.code yX5_barSpan cX5_barSpan 2 (some .int), Cond.constant RX5 99 (-1000004), Cond.methodLink RX5 46 yX5_in, Cond.static yX5_in]
def wsX5_bursts_r2 : List Cond := [Cond.code yX5_in cX5_in 3 (some .boolean), Cond.methodLink RX5 111 yX5_leastOf, Cond.static yX5_leastOf, Cond.code yX5_leastOf cX5_leastOf 1 (some .int), Cond.methodLink RX5 114 yX5_mostOf, Cond.static yX5_mostOf, Cond.code yX5_mostOf cX5_mostOf 1 (some .int), Cond.methodLink RX5 117 yX5_isNode, Cond.instanceMethod yX5_isNode, Cond.selects RX5 yX5_isNode yX5_isNode, Cond.code yX5_isNode cX5_isNode 2 (some .boolean), Cond.methodLink RX5 100 yX5_isSpan, Cond.instanceMethod yX5_isSpan, Cond.selects RX5 yX5_isSpan yX5_isSpan, Cond.code yX5_isSpan cX5_isSpan 2 (some .boolean), Cond.methodLink RX5 120 yX5_barMend, Cond.instanceMethod yX5_barMend, Cond.selects RX5 yX5_barMend yX5_barMend, Cond.code yX5_barMend cX5_barMend 2 (some .int), Cond.methodLink RX5 50 yX5_ofSpan, Cond.instanceMethod yX5_ofSpan, Cond.selects RX5 yX5_ofSpan yX5_ofSpan, Cond.code yX5_ofSpan cX5_ofSpan 3 (some .int), Cond.methodLink RX5 103 yX5_lengthsOf]
def wsX5_bursts_r3 : List Cond := [Cond.instanceMethod yX5_lengthsOf, Cond.selects RX5 yX5_lengthsOf yX5_lengthsOf, Cond.code yX5_lengthsOf cX5_lengthsOf 2 (some .int), Cond.methodLink RX5 129 yX5_refuse, Cond.instanceMethod yX5_refuse, Cond.selects RX5 yX5_refuse yX5_refuse, Cond.code yX5_refuse cX5_refuse 2 (some .int), Cond.fieldLink RX5 19 "HoseSpansModel" "refused" "[I", Cond.methodLink RX5 132 yX5_note, Cond.instanceMethod yX5_note, Cond.selects RX5 yX5_note yX5_note, Cond.code yX5_note cX5_note 2 none, Cond.fieldLink RX5 38 "HoseSpansModel" "states" "I", Cond.fieldLink RX5 16 "HoseSpansModel" "past" "[I", Cond.methodLink RX5 42 yX5_bring, Cond.static yX5_bring, Cond.code yX5_bring cX5_bring 5 none, Cond.methodLink RX5 135 yX5_act, Cond.instanceMethod yX5_act, Cond.selects RX5 yX5_act yX5_act, Cond.code yX5_act cX5_act 4 (some .int), Cond.methodLink RX5 123 yX5_doSpan, Cond.instanceMethod yX5_doSpan, Cond.selects RX5 yX5_doSpan yX5_doSpan]
def wsX5_bursts_r4 : List Cond := [Cond.code yX5_doSpan cX5_doSpan 3 (some .int), Cond.methodLink RX5 89 yX5_ones, Cond.static yX5_ones, Cond.code yX5_ones cX5_ones 3 (some .int)]
def wsX5_bursts : List Cond := .code yX5_bursts cX5_bursts 2 (some .int) :: ((wsX5_bursts_r1 ++ (wsX5_bursts_r2 ++ (wsX5_bursts_r3 ++ wsX5_bursts_r4))) ++ wsX50)
def wsX5_mends_r1 : List Cond := [Cond.methodLink RX5 138 yX5_say, Cond.instanceMethod yX5_say, Cond.selects RX5 yX5_say yX5_say, Cond.initialized RX5, Cond.code yX5_say cX5_say 5 none, Cond.fieldLink RX5 31 "HoseSpansModel" "said" "[I", Cond.methodLink RX5 142 yX5_call, Cond.instanceMethod yX5_call, Cond.selects RX5 yX5_call yX5_call, Cond.code yX5_call cX5_call 3 (some .int), Cond.methodLink RX5 126 yX5_barOf, Cond.instanceMethod yX5_barOf, Cond.selects RX5 yX5_barOf yX5_barOf, Cond.code yX5_barOf cX5_barOf 2 (some .int), Cond.constant RX5 37 (-1000002), Cond.fieldLink RX5 7 "HoseSpansModel" "now" "[I", Cond.constant RX5 106 (-1000003), Cond.methodLink RX5 107 yX5_barSpan, Cond.instanceMethod yX5_barSpan, Cond.selects RX5 yX5_barSpan yX5_barSpan, Cond.code yX5_barSpan cX5_barSpan 2 (some .int), Cond.constant RX5 99 (-1000004), Cond.methodLink RX5 46 yX5_in, Cond.static yX5_in]
def wsX5_mends_r2 : List Cond := [Cond.code yX5_in cX5_in 3 (some .boolean), Cond.methodLink RX5 111 yX5_leastOf, Cond.static yX5_leastOf, Cond.code yX5_leastOf cX5_leastOf 1 (some .int), Cond.methodLink RX5 114 yX5_mostOf, Cond.static yX5_mostOf, Cond.code yX5_mostOf cX5_mostOf 1 (some .int), Cond.methodLink RX5 117 yX5_isNode, Cond.instanceMethod yX5_isNode, Cond.selects RX5 yX5_isNode yX5_isNode, Cond.code yX5_isNode cX5_isNode 2 (some .boolean), Cond.methodLink RX5 100 yX5_isSpan, Cond.instanceMethod yX5_isSpan, Cond.selects RX5 yX5_isSpan yX5_isSpan, Cond.code yX5_isSpan cX5_isSpan 2 (some .boolean), Cond.methodLink RX5 120 yX5_barMend, Cond.instanceMethod yX5_barMend, Cond.selects RX5 yX5_barMend yX5_barMend, Cond.code yX5_barMend cX5_barMend 2 (some .int), Cond.methodLink RX5 50 yX5_ofSpan, Cond.instanceMethod yX5_ofSpan, Cond.selects RX5 yX5_ofSpan yX5_ofSpan, Cond.code yX5_ofSpan cX5_ofSpan 3 (some .int), Cond.methodLink RX5 103 yX5_lengthsOf]
def wsX5_mends_r3 : List Cond := [Cond.instanceMethod yX5_lengthsOf, Cond.selects RX5 yX5_lengthsOf yX5_lengthsOf, Cond.code yX5_lengthsOf cX5_lengthsOf 2 (some .int), Cond.methodLink RX5 129 yX5_refuse, Cond.instanceMethod yX5_refuse, Cond.selects RX5 yX5_refuse yX5_refuse, Cond.code yX5_refuse cX5_refuse 2 (some .int), Cond.fieldLink RX5 19 "HoseSpansModel" "refused" "[I", Cond.methodLink RX5 132 yX5_note, Cond.instanceMethod yX5_note, Cond.selects RX5 yX5_note yX5_note, Cond.code yX5_note cX5_note 2 none, Cond.fieldLink RX5 38 "HoseSpansModel" "states" "I", Cond.fieldLink RX5 16 "HoseSpansModel" "past" "[I", Cond.methodLink RX5 42 yX5_bring, Cond.static yX5_bring, Cond.code yX5_bring cX5_bring 5 none, Cond.methodLink RX5 135 yX5_act, Cond.instanceMethod yX5_act, Cond.selects RX5 yX5_act yX5_act, Cond.code yX5_act cX5_act 4 (some .int), Cond.methodLink RX5 123 yX5_doSpan, Cond.instanceMethod yX5_doSpan, Cond.selects RX5 yX5_doSpan yX5_doSpan]
def wsX5_mends_r4 : List Cond := [Cond.code yX5_doSpan cX5_doSpan 3 (some .int), Cond.methodLink RX5 89 yX5_ones, Cond.static yX5_ones, Cond.code yX5_ones cX5_ones 3 (some .int)]
def wsX5_mends : List Cond := .code yX5_mends cX5_mends 2 (some .int) :: ((wsX5_mends_r1 ++ (wsX5_mends_r2 ++ (wsX5_mends_r3 ++ wsX5_mends_r4))) ++ wsX50)
def wsX5_lays_r1 : List Cond := [Cond.fieldLink RX5 7 "HoseSpansModel" "now" "[I", Cond.constant RX5 106 (-1000003), Cond.fieldLink RX5 86 "HoseSpansModel" "fewestSet" "I", Cond.methodLink RX5 95 yX5_findFewest, Cond.instanceMethod yX5_findFewest, Cond.selects RX5 yX5_findFewest yX5_findFewest, Cond.initialized RX5, Cond.code yX5_findFewest cX5_findFewest 4 (some .boolean), Cond.constant RX5 74 (-1000001), Cond.methodLink RX5 89 yX5_ones, Cond.static yX5_ones, Cond.code yX5_ones cX5_ones 3 (some .int), Cond.methodLink RX5 92 yX5_goRun, Cond.instanceMethod yX5_goRun, Cond.selects RX5 yX5_goRun yX5_goRun, Cond.code yX5_goRun cX5_goRun 5 (some .boolean), Cond.fieldLink RX5 25 "HoseSpansModel" "into" "[I", Cond.fieldLink RX5 28 "HoseSpansModel" "behind" "[I", Cond.fieldLink RX5 58 "HoseSpansModel" "failsAt" "I", Cond.fieldLink RX5 61 "HoseSpansModel" "how" "I", Cond.fieldLink RX5 75 "HoseSpansModel" "last" "I", Cond.methodLink RX5 78 yX5_has, Cond.static yX5_has, Cond.code yX5_has cX5_has 2 (some .boolean)]
def wsX5_lays_r2 : List Cond := [Cond.methodLink RX5 64 yX5_fail, Cond.instanceMethod yX5_fail, Cond.selects RX5 yX5_fail yX5_fail, Cond.code yX5_fail cX5_fail 3 none, Cond.methodLink RX5 82 yX5_goOver, Cond.instanceMethod yX5_goOver, Cond.selects RX5 yX5_goOver yX5_goOver, Cond.code yX5_goOver cX5_goOver 5 (some .int), Cond.methodLink RX5 50 yX5_ofSpan, Cond.instanceMethod yX5_ofSpan, Cond.selects RX5 yX5_ofSpan yX5_ofSpan, Cond.code yX5_ofSpan cX5_ofSpan 3 (some .int), Cond.methodLink RX5 68 yX5_standsOf, Cond.static yX5_standsOf, Cond.code yX5_standsOf cX5_standsOf 1 (some .int), Cond.methodLink RX5 71 yX5_lossOf, Cond.instanceMethod yX5_lossOf, Cond.selects RX5 yX5_lossOf yX5_lossOf, Cond.code yX5_lossOf cX5_lossOf 4 (some .int), Cond.methodLink RX5 54 yX5_hardOf, Cond.static yX5_hardOf, Cond.code yX5_hardOf cX5_hardOf 1 (some .int), Cond.methodLink RX5 129 yX5_refuse, Cond.instanceMethod yX5_refuse]
def wsX5_lays_r3 : List Cond := [Cond.selects RX5 yX5_refuse yX5_refuse, Cond.code yX5_refuse cX5_refuse 2 (some .int), Cond.fieldLink RX5 19 "HoseSpansModel" "refused" "[I", Cond.constant RX5 37 (-1000002), Cond.methodLink RX5 132 yX5_note, Cond.instanceMethod yX5_note, Cond.selects RX5 yX5_note yX5_note, Cond.code yX5_note cX5_note 2 none, Cond.fieldLink RX5 38 "HoseSpansModel" "states" "I", Cond.fieldLink RX5 16 "HoseSpansModel" "past" "[I", Cond.methodLink RX5 42 yX5_bring, Cond.static yX5_bring, Cond.code yX5_bring cX5_bring 5 none]
def wsX5_lays : List Cond := .code yX5_lays cX5_lays 1 (some .int) :: ((wsX5_lays_r1 ++ (wsX5_lays_r2 ++ wsX5_lays_r3)) ++ wsX50)
def wsX5_of : List Cond := .code yX5_of cX5_of 3 (some .int) :: ([.constant RX5 37 (-1000002), .methodLink RX5 100 yX5_isSpan, .instanceMethod yX5_isSpan, .selects RX5 yX5_isSpan yX5_isSpan, .initialized RX5, .code yX5_isSpan cX5_isSpan 2 (some .boolean), .fieldLink RX5 7 "HoseSpansModel" "now" "[I", .methodLink RX5 46 yX5_in, .static yX5_in, .code yX5_in cX5_in 3 (some .boolean), .methodLink RX5 50 yX5_ofSpan, .instanceMethod yX5_ofSpan, .selects RX5 yX5_ofSpan yX5_ofSpan, .code yX5_ofSpan cX5_ofSpan 3 (some .int), .methodLink RX5 129 yX5_refuse, .instanceMethod yX5_refuse, .selects RX5 yX5_refuse yX5_refuse, .code yX5_refuse cX5_refuse 2 (some .int), .fieldLink RX5 19 "HoseSpansModel" "refused" "[I"] ++ wsX50)
def wsX5_loss_r1 : List Cond := [Cond.constant RX5 37 (-1000002), Cond.methodLink RX5 100 yX5_isSpan, Cond.instanceMethod yX5_isSpan, Cond.selects RX5 yX5_isSpan yX5_isSpan, Cond.initialized RX5, Cond.code yX5_isSpan cX5_isSpan 2 (some .boolean), Cond.fieldLink RX5 7 "HoseSpansModel" "now" "[I", Cond.methodLink RX5 46 yX5_in, Cond.static yX5_in, Cond.code yX5_in cX5_in 3 (some .boolean), Cond.methodLink RX5 71 yX5_lossOf, Cond.instanceMethod yX5_lossOf, Cond.selects RX5 yX5_lossOf yX5_lossOf, Cond.code yX5_lossOf cX5_lossOf 4 (some .int), Cond.methodLink RX5 50 yX5_ofSpan, Cond.instanceMethod yX5_ofSpan, Cond.selects RX5 yX5_ofSpan yX5_ofSpan, Cond.code yX5_ofSpan cX5_ofSpan 3 (some .int), Cond.methodLink RX5 54 yX5_hardOf, Cond.static yX5_hardOf, Cond.code yX5_hardOf cX5_hardOf 1 (some .int), Cond.methodLink RX5 129 yX5_refuse, Cond.instanceMethod yX5_refuse, Cond.selects RX5 yX5_refuse yX5_refuse]
def wsX5_loss_r2 : List Cond := [Cond.code yX5_refuse cX5_refuse 2 (some .int), Cond.fieldLink RX5 19 "HoseSpansModel" "refused" "[I"]
def wsX5_loss : List Cond := .code yX5_loss cX5_loss 3 (some .int) :: ((wsX5_loss_r1 ++ wsX5_loss_r2) ++ wsX50)
def wsX5_node_r1 : List Cond := [Cond.constant RX5 37 (-1000002), Cond.fieldLink RX5 7 "HoseSpansModel" "now" "[I", Cond.fieldLink RX5 25 "HoseSpansModel" "into" "[I", Cond.fieldLink RX5 28 "HoseSpansModel" "behind" "[I", Cond.methodLink RX5 117 yX5_isNode, Cond.instanceMethod yX5_isNode, Cond.selects RX5 yX5_isNode yX5_isNode, Cond.initialized RX5, Cond.code yX5_isNode cX5_isNode 2 (some .boolean), Cond.methodLink RX5 46 yX5_in, Cond.static yX5_in, Cond.code yX5_in cX5_in 3 (some .boolean), Cond.methodLink RX5 129 yX5_refuse, Cond.instanceMethod yX5_refuse, Cond.selects RX5 yX5_refuse yX5_refuse, Cond.code yX5_refuse cX5_refuse 2 (some .int), Cond.fieldLink RX5 19 "HoseSpansModel" "refused" "[I", Cond.methodLink RX5 92 yX5_goRun, Cond.instanceMethod yX5_goRun, Cond.selects RX5 yX5_goRun yX5_goRun, Cond.code yX5_goRun cX5_goRun 5 (some .boolean), Cond.constant RX5 74 (-1000001), Cond.fieldLink RX5 58 "HoseSpansModel" "failsAt" "I", Cond.fieldLink RX5 61 "HoseSpansModel" "how" "I"]
def wsX5_node_r2 : List Cond := [Cond.fieldLink RX5 75 "HoseSpansModel" "last" "I", Cond.methodLink RX5 78 yX5_has, Cond.static yX5_has, Cond.code yX5_has cX5_has 2 (some .boolean), Cond.methodLink RX5 64 yX5_fail, Cond.instanceMethod yX5_fail, Cond.selects RX5 yX5_fail yX5_fail, Cond.code yX5_fail cX5_fail 3 none, Cond.methodLink RX5 82 yX5_goOver, Cond.instanceMethod yX5_goOver, Cond.selects RX5 yX5_goOver yX5_goOver, Cond.code yX5_goOver cX5_goOver 5 (some .int), Cond.methodLink RX5 50 yX5_ofSpan, Cond.instanceMethod yX5_ofSpan, Cond.selects RX5 yX5_ofSpan yX5_ofSpan, Cond.code yX5_ofSpan cX5_ofSpan 3 (some .int), Cond.methodLink RX5 68 yX5_standsOf, Cond.static yX5_standsOf, Cond.code yX5_standsOf cX5_standsOf 1 (some .int), Cond.methodLink RX5 71 yX5_lossOf, Cond.instanceMethod yX5_lossOf, Cond.selects RX5 yX5_lossOf yX5_lossOf, Cond.code yX5_lossOf cX5_lossOf 4 (some .int), Cond.methodLink RX5 54 yX5_hardOf]
def wsX5_node_r3 : List Cond := [Cond.static yX5_hardOf, Cond.code yX5_hardOf cX5_hardOf 1 (some .int)]
def wsX5_node : List Cond := .code yX5_node cX5_node 4 (some .int) :: ((wsX5_node_r1 ++ (wsX5_node_r2 ++ wsX5_node_r3)) ++ wsX50)
def wsX5_ofRun_r1 : List Cond := [Cond.fieldLink RX5 7 "HoseSpansModel" "now" "[I", Cond.constant RX5 74 (-1000001), Cond.fieldLink RX5 58 "HoseSpansModel" "failsAt" "I", Cond.fieldLink RX5 61 "HoseSpansModel" "how" "I", Cond.fieldLink RX5 75 "HoseSpansModel" "last" "I", Cond.methodLink RX5 92 yX5_goRun, Cond.instanceMethod yX5_goRun, Cond.selects RX5 yX5_goRun yX5_goRun, Cond.initialized RX5, Cond.code yX5_goRun cX5_goRun 5 (some .boolean), Cond.fieldLink RX5 25 "HoseSpansModel" "into" "[I", Cond.fieldLink RX5 28 "HoseSpansModel" "behind" "[I", Cond.methodLink RX5 78 yX5_has, Cond.static yX5_has, Cond.code yX5_has cX5_has 2 (some .boolean), Cond.methodLink RX5 64 yX5_fail, Cond.instanceMethod yX5_fail, Cond.selects RX5 yX5_fail yX5_fail, Cond.code yX5_fail cX5_fail 3 none, Cond.methodLink RX5 82 yX5_goOver, Cond.instanceMethod yX5_goOver, Cond.selects RX5 yX5_goOver yX5_goOver, Cond.code yX5_goOver cX5_goOver 5 (some .int), Cond.methodLink RX5 50 yX5_ofSpan]
def wsX5_ofRun_r2 : List Cond := [Cond.instanceMethod yX5_ofSpan, Cond.selects RX5 yX5_ofSpan yX5_ofSpan, Cond.code yX5_ofSpan cX5_ofSpan 3 (some .int), Cond.methodLink RX5 68 yX5_standsOf, Cond.static yX5_standsOf, Cond.code yX5_standsOf cX5_standsOf 1 (some .int), Cond.methodLink RX5 71 yX5_lossOf, Cond.instanceMethod yX5_lossOf, Cond.selects RX5 yX5_lossOf yX5_lossOf, Cond.code yX5_lossOf cX5_lossOf 4 (some .int), Cond.methodLink RX5 54 yX5_hardOf, Cond.static yX5_hardOf, Cond.code yX5_hardOf cX5_hardOf 1 (some .int)]
def wsX5_ofRun : List Cond := .code yX5_ofRun cX5_ofRun 3 (some .int) :: ((wsX5_ofRun_r1 ++ wsX5_ofRun_r2) ++ wsX50)
def wsX5_run_r1 : List Cond := [Cond.constant RX5 37 (-1000002), Cond.methodLink RX5 46 yX5_in, Cond.static yX5_in, Cond.initialized RX5, Cond.code yX5_in cX5_in 3 (some .boolean), Cond.methodLink RX5 145 yX5_ofRun, Cond.instanceMethod yX5_ofRun, Cond.selects RX5 yX5_ofRun yX5_ofRun, Cond.code yX5_ofRun cX5_ofRun 3 (some .int), Cond.fieldLink RX5 7 "HoseSpansModel" "now" "[I", Cond.constant RX5 74 (-1000001), Cond.fieldLink RX5 58 "HoseSpansModel" "failsAt" "I", Cond.fieldLink RX5 61 "HoseSpansModel" "how" "I", Cond.fieldLink RX5 75 "HoseSpansModel" "last" "I", Cond.methodLink RX5 92 yX5_goRun, Cond.instanceMethod yX5_goRun, Cond.selects RX5 yX5_goRun yX5_goRun, Cond.code yX5_goRun cX5_goRun 5 (some .boolean), Cond.fieldLink RX5 25 "HoseSpansModel" "into" "[I", Cond.fieldLink RX5 28 "HoseSpansModel" "behind" "[I", Cond.methodLink RX5 78 yX5_has, Cond.static yX5_has, Cond.code yX5_has cX5_has 2 (some .boolean), Cond.methodLink RX5 64 yX5_fail]
def wsX5_run_r2 : List Cond := [Cond.instanceMethod yX5_fail, Cond.selects RX5 yX5_fail yX5_fail, Cond.code yX5_fail cX5_fail 3 none, Cond.methodLink RX5 82 yX5_goOver, Cond.instanceMethod yX5_goOver, Cond.selects RX5 yX5_goOver yX5_goOver, Cond.code yX5_goOver cX5_goOver 5 (some .int), Cond.methodLink RX5 50 yX5_ofSpan, Cond.instanceMethod yX5_ofSpan, Cond.selects RX5 yX5_ofSpan yX5_ofSpan, Cond.code yX5_ofSpan cX5_ofSpan 3 (some .int), Cond.methodLink RX5 68 yX5_standsOf, Cond.static yX5_standsOf, Cond.code yX5_standsOf cX5_standsOf 1 (some .int), Cond.methodLink RX5 71 yX5_lossOf, Cond.instanceMethod yX5_lossOf, Cond.selects RX5 yX5_lossOf yX5_lossOf, Cond.code yX5_lossOf cX5_lossOf 4 (some .int), Cond.methodLink RX5 54 yX5_hardOf, Cond.static yX5_hardOf, Cond.code yX5_hardOf cX5_hardOf 1 (some .int), Cond.methodLink RX5 129 yX5_refuse, Cond.instanceMethod yX5_refuse, Cond.selects RX5 yX5_refuse yX5_refuse]
def wsX5_run_r3 : List Cond := [Cond.code yX5_refuse cX5_refuse 2 (some .int), Cond.fieldLink RX5 19 "HoseSpansModel" "refused" "[I"]
def wsX5_run : List Cond := .code yX5_run cX5_run 2 (some .int) :: ((wsX5_run_r1 ++ (wsX5_run_r2 ++ wsX5_run_r3)) ++ wsX50)
def wsX5_fewest_r1 : List Cond := [Cond.constant RX5 37 (-1000002), Cond.methodLink RX5 46 yX5_in, Cond.static yX5_in, Cond.initialized RX5, Cond.code yX5_in cX5_in 3 (some .boolean), Cond.methodLink RX5 148 yX5_fewestOf, Cond.instanceMethod yX5_fewestOf, Cond.selects RX5 yX5_fewestOf yX5_fewestOf, Cond.code yX5_fewestOf cX5_fewestOf 4 (some .int), Cond.constant RX5 74 (-1000001), Cond.fieldLink RX5 86 "HoseSpansModel" "fewestSet" "I", Cond.methodLink RX5 95 yX5_findFewest, Cond.instanceMethod yX5_findFewest, Cond.selects RX5 yX5_findFewest yX5_findFewest, Cond.code yX5_findFewest cX5_findFewest 4 (some .boolean), Cond.fieldLink RX5 7 "HoseSpansModel" "now" "[I", Cond.methodLink RX5 89 yX5_ones, Cond.static yX5_ones, Cond.code yX5_ones cX5_ones 3 (some .int), Cond.methodLink RX5 92 yX5_goRun, Cond.instanceMethod yX5_goRun, Cond.selects RX5 yX5_goRun yX5_goRun, Cond.code yX5_goRun cX5_goRun 5 (some .boolean), Cond.fieldLink RX5 25 "HoseSpansModel" "into" "[I"]
def wsX5_fewest_r2 : List Cond := [Cond.fieldLink RX5 28 "HoseSpansModel" "behind" "[I", Cond.fieldLink RX5 58 "HoseSpansModel" "failsAt" "I", Cond.fieldLink RX5 61 "HoseSpansModel" "how" "I", Cond.fieldLink RX5 75 "HoseSpansModel" "last" "I", Cond.methodLink RX5 78 yX5_has, Cond.static yX5_has, Cond.code yX5_has cX5_has 2 (some .boolean), Cond.methodLink RX5 64 yX5_fail, Cond.instanceMethod yX5_fail, Cond.selects RX5 yX5_fail yX5_fail, Cond.code yX5_fail cX5_fail 3 none, Cond.methodLink RX5 82 yX5_goOver, Cond.instanceMethod yX5_goOver, Cond.selects RX5 yX5_goOver yX5_goOver, Cond.code yX5_goOver cX5_goOver 5 (some .int), Cond.methodLink RX5 50 yX5_ofSpan, Cond.instanceMethod yX5_ofSpan, Cond.selects RX5 yX5_ofSpan yX5_ofSpan, Cond.code yX5_ofSpan cX5_ofSpan 3 (some .int), Cond.methodLink RX5 68 yX5_standsOf, Cond.static yX5_standsOf, Cond.code yX5_standsOf cX5_standsOf 1 (some .int), Cond.methodLink RX5 71 yX5_lossOf, Cond.instanceMethod yX5_lossOf]
def wsX5_fewest_r3 : List Cond := [Cond.selects RX5 yX5_lossOf yX5_lossOf, Cond.code yX5_lossOf cX5_lossOf 4 (some .int), Cond.methodLink RX5 54 yX5_hardOf, Cond.static yX5_hardOf, Cond.code yX5_hardOf cX5_hardOf 1 (some .int), Cond.methodLink RX5 129 yX5_refuse, Cond.instanceMethod yX5_refuse, Cond.selects RX5 yX5_refuse yX5_refuse, Cond.code yX5_refuse cX5_refuse 2 (some .int), Cond.fieldLink RX5 19 "HoseSpansModel" "refused" "[I"]
def wsX5_fewest : List Cond := .code yX5_fewest cX5_fewest 3 (some .int) :: ((wsX5_fewest_r1 ++ (wsX5_fewest_r2 ++ wsX5_fewest_r3)) ++ wsX50)
def wsX5_most_r1 : List Cond := [Cond.methodLink RX5 151 yX5_mostNow, Cond.instanceMethod yX5_mostNow, Cond.selects RX5 yX5_mostNow yX5_mostNow, Cond.initialized RX5, Cond.code yX5_mostNow cX5_mostNow 3 (some .int), Cond.constant RX5 74 (-1000001), Cond.fieldLink RX5 7 "HoseSpansModel" "now" "[I", Cond.methodLink RX5 92 yX5_goRun, Cond.instanceMethod yX5_goRun, Cond.selects RX5 yX5_goRun yX5_goRun, Cond.code yX5_goRun cX5_goRun 5 (some .boolean), Cond.fieldLink RX5 25 "HoseSpansModel" "into" "[I", Cond.fieldLink RX5 28 "HoseSpansModel" "behind" "[I", Cond.fieldLink RX5 58 "HoseSpansModel" "failsAt" "I", Cond.fieldLink RX5 61 "HoseSpansModel" "how" "I", Cond.fieldLink RX5 75 "HoseSpansModel" "last" "I", Cond.methodLink RX5 78 yX5_has, Cond.static yX5_has, Cond.code yX5_has cX5_has 2 (some .boolean), Cond.methodLink RX5 64 yX5_fail, Cond.instanceMethod yX5_fail, Cond.selects RX5 yX5_fail yX5_fail, Cond.code yX5_fail cX5_fail 3 none, Cond.methodLink RX5 82 yX5_goOver]
def wsX5_most_r2 : List Cond := [Cond.instanceMethod yX5_goOver, Cond.selects RX5 yX5_goOver yX5_goOver, Cond.code yX5_goOver cX5_goOver 5 (some .int), Cond.methodLink RX5 50 yX5_ofSpan, Cond.instanceMethod yX5_ofSpan, Cond.selects RX5 yX5_ofSpan yX5_ofSpan, Cond.code yX5_ofSpan cX5_ofSpan 3 (some .int), Cond.methodLink RX5 68 yX5_standsOf, Cond.static yX5_standsOf, Cond.code yX5_standsOf cX5_standsOf 1 (some .int), Cond.methodLink RX5 71 yX5_lossOf, Cond.instanceMethod yX5_lossOf, Cond.selects RX5 yX5_lossOf yX5_lossOf, Cond.code yX5_lossOf cX5_lossOf 4 (some .int), Cond.methodLink RX5 54 yX5_hardOf, Cond.static yX5_hardOf, Cond.code yX5_hardOf cX5_hardOf 1 (some .int)]
def wsX5_most : List Cond := .code yX5_most cX5_most 1 (some .int) :: ((wsX5_most_r1 ++ wsX5_most_r2) ++ wsX50)
def wsX5_countOf : List Cond := .code yX5_countOf cX5_countOf 5 (some .int) :: ([.fieldLink RX5 7 "HoseSpansModel" "now" "[I", .methodLink RX5 46 yX5_in, .static yX5_in, .initialized RX5, .code yX5_in cX5_in 3 (some .boolean), .methodLink RX5 50 yX5_ofSpan, .instanceMethod yX5_ofSpan, .selects RX5 yX5_ofSpan yX5_ofSpan, .code yX5_ofSpan cX5_ofSpan 3 (some .int), .methodLink RX5 103 yX5_lengthsOf, .instanceMethod yX5_lengthsOf, .selects RX5 yX5_lengthsOf yX5_lengthsOf, .code yX5_lengthsOf cX5_lengthsOf 2 (some .int), .methodLink RX5 89 yX5_ones, .static yX5_ones, .code yX5_ones cX5_ones 3 (some .int)] ++ wsX50)
def wsX5_count_r1 : List Cond := [Cond.constant RX5 37 (-1000002), Cond.methodLink RX5 46 yX5_in, Cond.static yX5_in, Cond.initialized RX5, Cond.code yX5_in cX5_in 3 (some .boolean), Cond.methodLink RX5 154 yX5_countOf, Cond.instanceMethod yX5_countOf, Cond.selects RX5 yX5_countOf yX5_countOf, Cond.code yX5_countOf cX5_countOf 5 (some .int), Cond.fieldLink RX5 7 "HoseSpansModel" "now" "[I", Cond.methodLink RX5 50 yX5_ofSpan, Cond.instanceMethod yX5_ofSpan, Cond.selects RX5 yX5_ofSpan yX5_ofSpan, Cond.code yX5_ofSpan cX5_ofSpan 3 (some .int), Cond.methodLink RX5 103 yX5_lengthsOf, Cond.instanceMethod yX5_lengthsOf, Cond.selects RX5 yX5_lengthsOf yX5_lengthsOf, Cond.code yX5_lengthsOf cX5_lengthsOf 2 (some .int), Cond.methodLink RX5 89 yX5_ones, Cond.static yX5_ones, Cond.code yX5_ones cX5_ones 3 (some .int), Cond.methodLink RX5 129 yX5_refuse, Cond.instanceMethod yX5_refuse, Cond.selects RX5 yX5_refuse yX5_refuse]
def wsX5_count_r2 : List Cond := [Cond.code yX5_refuse cX5_refuse 2 (some .int), Cond.fieldLink RX5 19 "HoseSpansModel" "refused" "[I"]
def wsX5_count : List Cond := .code yX5_count cX5_count 2 (some .int) :: ((wsX5_count_r1 ++ wsX5_count_r2) ++ wsX50)
def wsX5_areTimes : List Cond := .code yX5_areTimes cX5_areTimes 4 (some .boolean) :: ([.methodLink RX5 46 yX5_in, .static yX5_in, .initialized RX5, .code yX5_in cX5_in 3 (some .boolean)])
def wsX5_bringsBy : List Cond := .code yX5_bringsBy cX5_bringsBy 6 (some .int) :: ([])
def wsX5_shuttle : List Cond := .code yX5_shuttle cX5_shuttle 6 (some .int) :: ([.constant RX5 37 (-1000002), .methodLink RX5 46 yX5_in, .static yX5_in, .initialized RX5, .code yX5_in cX5_in 3 (some .boolean), .methodLink RX5 157 yX5_areTimes, .static yX5_areTimes, .code yX5_areTimes cX5_areTimes 4 (some .boolean), .methodLink RX5 161 yX5_bringsBy, .static yX5_bringsBy, .code yX5_bringsBy cX5_bringsBy 6 (some .int), .methodLink RX5 129 yX5_refuse, .instanceMethod yX5_refuse, .selects RX5 yX5_refuse yX5_refuse, .code yX5_refuse cX5_refuse 2 (some .int), .fieldLink RX5 19 "HoseSpansModel" "refused" "[I"] ++ wsX50)
def wsX5_tanks : List Cond := .code yX5_tanks cX5_tanks 7 (some .int) :: ([.constant RX5 37 (-1000002), .constant RX5 74 (-1000001), .methodLink RX5 46 yX5_in, .static yX5_in, .initialized RX5, .code yX5_in cX5_in 3 (some .boolean), .methodLink RX5 157 yX5_areTimes, .static yX5_areTimes, .code yX5_areTimes cX5_areTimes 4 (some .boolean), .methodLink RX5 129 yX5_refuse, .instanceMethod yX5_refuse, .selects RX5 yX5_refuse yX5_refuse, .code yX5_refuse cX5_refuse 2 (some .int), .fieldLink RX5 19 "HoseSpansModel" "refused" "[I", .methodLink RX5 161 yX5_bringsBy, .static yX5_bringsBy, .code yX5_bringsBy cX5_bringsBy 6 (some .int)] ++ wsX50)
def wsX5_type : List Cond := .code yX5_type cX5_type 2 (some .int) :: ([.constant RX5 37 (-1000002), .fieldLink RX5 165 "HoseSpansModel" "bytes" "I", .constant RX5 99 (-1000004), .fieldLink RX5 22 "HoseSpansModel" "text" "[I", .methodLink RX5 46 yX5_in, .static yX5_in, .initialized RX5, .code yX5_in cX5_in 3 (some .boolean), .methodLink RX5 129 yX5_refuse, .instanceMethod yX5_refuse, .selects RX5 yX5_refuse yX5_refuse, .code yX5_refuse cX5_refuse 2 (some .int), .fieldLink RX5 19 "HoseSpansModel" "refused" "[I"] ++ wsX50)
def wsX5_clear : List Cond := .code yX5_clear cX5_clear 2 (some .int) :: ([.fieldLink RX5 165 "HoseSpansModel" "bytes" "I"] ++ wsX50)
def wsX5_skip : List Cond := .code yX5_skip cX5_skip 1 none :: ([.fieldLink RX5 168 "HoseSpansModel" "at" "I", .fieldLink RX5 165 "HoseSpansModel" "bytes" "I", .fieldLink RX5 22 "HoseSpansModel" "text" "[I"] ++ wsX50)
def wsX5_isFigure : List Cond := .code yX5_isFigure cX5_isFigure 1 (some .boolean) :: ([.fieldLink RX5 168 "HoseSpansModel" "at" "I", .fieldLink RX5 165 "HoseSpansModel" "bytes" "I", .fieldLink RX5 22 "HoseSpansModel" "text" "[I", .methodLink RX5 46 yX5_in, .static yX5_in, .initialized RX5, .code yX5_in cX5_in 3 (some .boolean)] ++ wsX50)
def wsX5_readNumber : List Cond := .code yX5_readNumber cX5_readNumber 6 (some .boolean) :: ([.fieldLink RX5 168 "HoseSpansModel" "at" "I", .fieldLink RX5 165 "HoseSpansModel" "bytes" "I", .fieldLink RX5 22 "HoseSpansModel" "text" "[I", .fieldLink RX5 31 "HoseSpansModel" "said" "[I", .methodLink RX5 171 yX5_skip, .instanceMethod yX5_skip, .selects RX5 yX5_skip yX5_skip, .initialized RX5, .code yX5_skip cX5_skip 1 none, .methodLink RX5 174 yX5_isFigure, .instanceMethod yX5_isFigure, .selects RX5 yX5_isFigure yX5_isFigure, .code yX5_isFigure cX5_isFigure 1 (some .boolean), .methodLink RX5 46 yX5_in, .static yX5_in, .code yX5_in cX5_in 3 (some .boolean)] ++ wsX50)
def wsX5_numbersOf : List Cond := .code yX5_numbersOf cX5_numbersOf 1 (some .int) :: ([.constant RX5 74 (-1000001)])
def wsX5_readOrder : List Cond := .code yX5_readOrder cX5_readOrder 4 (some .boolean) :: ([.constant RX5 74 (-1000001), .fieldLink RX5 168 "HoseSpansModel" "at" "I", .fieldLink RX5 165 "HoseSpansModel" "bytes" "I", .fieldLink RX5 22 "HoseSpansModel" "text" "[I", .methodLink RX5 178 yX5_numbersOf, .static yX5_numbersOf, .initialized RX5, .code yX5_numbersOf cX5_numbersOf 1 (some .int), .methodLink RX5 181 yX5_readNumber, .instanceMethod yX5_readNumber, .selects RX5 yX5_readNumber yX5_readNumber, .code yX5_readNumber cX5_readNumber 6 (some .boolean), .fieldLink RX5 31 "HoseSpansModel" "said" "[I", .methodLink RX5 171 yX5_skip, .instanceMethod yX5_skip, .selects RX5 yX5_skip yX5_skip, .code yX5_skip cX5_skip 1 none, .methodLink RX5 174 yX5_isFigure, .instanceMethod yX5_isFigure, .selects RX5 yX5_isFigure yX5_isFigure, .code yX5_isFigure cX5_isFigure 1 (some .boolean), .methodLink RX5 46 yX5_in, .static yX5_in, .code yX5_in cX5_in 3 (some .boolean)] ++ wsX50)
def wsX5_findFault_r1 : List Cond := [Cond.fieldLink RX5 168 "HoseSpansModel" "at" "I", Cond.fieldLink RX5 165 "HoseSpansModel" "bytes" "I", Cond.fieldLink RX5 22 "HoseSpansModel" "text" "[I", Cond.constant RX5 74 (-1000001), Cond.methodLink RX5 171 yX5_skip, Cond.instanceMethod yX5_skip, Cond.selects RX5 yX5_skip yX5_skip, Cond.initialized RX5, Cond.code yX5_skip cX5_skip 1 none, Cond.methodLink RX5 185 yX5_readOrder, Cond.instanceMethod yX5_readOrder, Cond.selects RX5 yX5_readOrder yX5_readOrder, Cond.code yX5_readOrder cX5_readOrder 4 (some .boolean), Cond.methodLink RX5 178 yX5_numbersOf, Cond.static yX5_numbersOf, Cond.code yX5_numbersOf cX5_numbersOf 1 (some .int), Cond.methodLink RX5 181 yX5_readNumber, Cond.instanceMethod yX5_readNumber, Cond.selects RX5 yX5_readNumber yX5_readNumber, Cond.code yX5_readNumber cX5_readNumber 6 (some .boolean), Cond.fieldLink RX5 31 "HoseSpansModel" "said" "[I", Cond.methodLink RX5 174 yX5_isFigure, Cond.instanceMethod yX5_isFigure, Cond.selects RX5 yX5_isFigure yX5_isFigure]
def wsX5_findFault_r2 : List Cond := [Cond.code yX5_isFigure cX5_isFigure 1 (some .boolean), Cond.methodLink RX5 46 yX5_in, Cond.static yX5_in, Cond.code yX5_in cX5_in 3 (some .boolean)]
def wsX5_findFault : List Cond := .code yX5_findFault cX5_findFault 2 (some .int) :: ((wsX5_findFault_r1 ++ wsX5_findFault_r2) ++ wsX50)
def wsX5_does_r1 : List Cond := [Cond.constant RX5 74 (-1000001), Cond.fieldLink RX5 7 "HoseSpansModel" "now" "[I", Cond.fieldLink RX5 13 "HoseSpansModel" "aside" "[I", Cond.fieldLink RX5 168 "HoseSpansModel" "at" "I", Cond.fieldLink RX5 165 "HoseSpansModel" "bytes" "I", Cond.fieldLink RX5 22 "HoseSpansModel" "text" "[I", Cond.fieldLink RX5 34 "HoseSpansModel" "behindAll" "[I", Cond.methodLink RX5 188 yX5_findFault, Cond.instanceMethod yX5_findFault, Cond.selects RX5 yX5_findFault yX5_findFault, Cond.initialized RX5, Cond.code yX5_findFault cX5_findFault 2 (some .int), Cond.methodLink RX5 171 yX5_skip, Cond.instanceMethod yX5_skip, Cond.selects RX5 yX5_skip yX5_skip, Cond.code yX5_skip cX5_skip 1 none, Cond.methodLink RX5 185 yX5_readOrder, Cond.instanceMethod yX5_readOrder, Cond.selects RX5 yX5_readOrder yX5_readOrder, Cond.code yX5_readOrder cX5_readOrder 4 (some .boolean), Cond.methodLink RX5 178 yX5_numbersOf, Cond.static yX5_numbersOf, Cond.code yX5_numbersOf cX5_numbersOf 1 (some .int), Cond.methodLink RX5 181 yX5_readNumber]
def wsX5_does_r2 : List Cond := [Cond.instanceMethod yX5_readNumber, Cond.selects RX5 yX5_readNumber yX5_readNumber, Cond.code yX5_readNumber cX5_readNumber 6 (some .boolean), Cond.fieldLink RX5 31 "HoseSpansModel" "said" "[I", Cond.methodLink RX5 174 yX5_isFigure, Cond.instanceMethod yX5_isFigure, Cond.selects RX5 yX5_isFigure yX5_isFigure, Cond.code yX5_isFigure cX5_isFigure 1 (some .boolean), Cond.methodLink RX5 46 yX5_in, Cond.static yX5_in, Cond.code yX5_in cX5_in 3 (some .boolean), Cond.methodLink RX5 42 yX5_bring, Cond.static yX5_bring, Cond.code yX5_bring cX5_bring 5 none, Cond.methodLink RX5 126 yX5_barOf, Cond.instanceMethod yX5_barOf, Cond.selects RX5 yX5_barOf yX5_barOf, Cond.code yX5_barOf cX5_barOf 2 (some .int), Cond.constant RX5 37 (-1000002), Cond.constant RX5 106 (-1000003), Cond.methodLink RX5 107 yX5_barSpan, Cond.instanceMethod yX5_barSpan, Cond.selects RX5 yX5_barSpan yX5_barSpan, Cond.code yX5_barSpan cX5_barSpan 2 (some .int)]
def wsX5_does_r3 : List Cond := [Cond.constant RX5 99 (-1000004), Cond.methodLink RX5 111 yX5_leastOf, Cond.static yX5_leastOf, Cond.code yX5_leastOf cX5_leastOf 1 (some .int), Cond.methodLink RX5 114 yX5_mostOf, Cond.static yX5_mostOf, Cond.code yX5_mostOf cX5_mostOf 1 (some .int), Cond.methodLink RX5 117 yX5_isNode, Cond.instanceMethod yX5_isNode, Cond.selects RX5 yX5_isNode yX5_isNode, Cond.code yX5_isNode cX5_isNode 2 (some .boolean), Cond.methodLink RX5 100 yX5_isSpan, Cond.instanceMethod yX5_isSpan, Cond.selects RX5 yX5_isSpan yX5_isSpan, Cond.code yX5_isSpan cX5_isSpan 2 (some .boolean), Cond.methodLink RX5 120 yX5_barMend, Cond.instanceMethod yX5_barMend, Cond.selects RX5 yX5_barMend yX5_barMend, Cond.code yX5_barMend cX5_barMend 2 (some .int), Cond.methodLink RX5 50 yX5_ofSpan, Cond.instanceMethod yX5_ofSpan, Cond.selects RX5 yX5_ofSpan yX5_ofSpan, Cond.code yX5_ofSpan cX5_ofSpan 3 (some .int), Cond.methodLink RX5 103 yX5_lengthsOf]
def wsX5_does_r4 : List Cond := [Cond.instanceMethod yX5_lengthsOf, Cond.selects RX5 yX5_lengthsOf yX5_lengthsOf, Cond.code yX5_lengthsOf cX5_lengthsOf 2 (some .int), Cond.methodLink RX5 135 yX5_act, Cond.instanceMethod yX5_act, Cond.selects RX5 yX5_act yX5_act, Cond.code yX5_act cX5_act 4 (some .int), Cond.methodLink RX5 123 yX5_doSpan, Cond.instanceMethod yX5_doSpan, Cond.selects RX5 yX5_doSpan yX5_doSpan, Cond.code yX5_doSpan cX5_doSpan 3 (some .int), Cond.methodLink RX5 89 yX5_ones, Cond.static yX5_ones, Cond.code yX5_ones cX5_ones 3 (some .int), Cond.methodLink RX5 132 yX5_note, Cond.instanceMethod yX5_note, Cond.selects RX5 yX5_note yX5_note, Cond.code yX5_note cX5_note 2 none, Cond.fieldLink RX5 38 "HoseSpansModel" "states" "I", Cond.fieldLink RX5 16 "HoseSpansModel" "past" "[I"]
def wsX5_does : List Cond := .code yX5_does cX5_does 6 (some .int) :: ((wsX5_does_r1 ++ (wsX5_does_r2 ++ (wsX5_does_r3 ++ wsX5_does_r4))) ++ wsX50)
def wsX5_back : List Cond := .code yX5_back cX5_back 1 (some .int) :: ([.fieldLink RX5 38 "HoseSpansModel" "states" "I", .constant RX5 106 (-1000003), .fieldLink RX5 16 "HoseSpansModel" "past" "[I", .fieldLink RX5 7 "HoseSpansModel" "now" "[I", .methodLink RX5 129 yX5_refuse, .instanceMethod yX5_refuse, .selects RX5 yX5_refuse yX5_refuse, .initialized RX5, .code yX5_refuse cX5_refuse 2 (some .int), .fieldLink RX5 19 "HoseSpansModel" "refused" "[I", .constant RX5 37 (-1000002), .methodLink RX5 42 yX5_bring, .static yX5_bring, .code yX5_bring cX5_bring 5 none] ++ wsX50)
def wsX5_toldOf : List Cond := .code yX5_toldOf cX5_toldOf 2 (some .int) :: ([.fieldLink RX5 19 "HoseSpansModel" "refused" "[I", .fieldLink RX5 165 "HoseSpansModel" "bytes" "I", .fieldLink RX5 38 "HoseSpansModel" "states" "I"] ++ wsX50)
def wsX5_told : List Cond := .code yX5_told cX5_told 2 (some .int) :: ([.constant RX5 37 (-1000002), .methodLink RX5 46 yX5_in, .static yX5_in, .initialized RX5, .code yX5_in cX5_in 3 (some .boolean), .methodLink RX5 191 yX5_toldOf, .instanceMethod yX5_toldOf, .selects RX5 yX5_toldOf yX5_toldOf, .code yX5_toldOf cX5_toldOf 2 (some .int), .fieldLink RX5 19 "HoseSpansModel" "refused" "[I", .fieldLink RX5 165 "HoseSpansModel" "bytes" "I", .fieldLink RX5 38 "HoseSpansModel" "states" "I", .methodLink RX5 129 yX5_refuse, .instanceMethod yX5_refuse, .selects RX5 yX5_refuse yX5_refuse, .code yX5_refuse cX5_refuse 2 (some .int)] ++ wsX50)
def wsX5_digest_r1 : List Cond := [Cond.constantLong RX5 194 (2920), Cond.constantLong RX5 196 (31), Cond.fieldLink RX5 7 "HoseSpansModel" "now" "[I", Cond.fieldLink RX5 25 "HoseSpansModel" "into" "[I", Cond.fieldLink RX5 28 "HoseSpansModel" "behind" "[I", Cond.methodLink RX5 191 yX5_toldOf, Cond.instanceMethod yX5_toldOf, Cond.selects RX5 yX5_toldOf yX5_toldOf, Cond.initialized RX5, Cond.code yX5_toldOf cX5_toldOf 2 (some .int), Cond.fieldLink RX5 19 "HoseSpansModel" "refused" "[I", Cond.fieldLink RX5 165 "HoseSpansModel" "bytes" "I", Cond.fieldLink RX5 38 "HoseSpansModel" "states" "I", Cond.methodLink RX5 154 yX5_countOf, Cond.instanceMethod yX5_countOf, Cond.selects RX5 yX5_countOf yX5_countOf, Cond.code yX5_countOf cX5_countOf 5 (some .int), Cond.methodLink RX5 46 yX5_in, Cond.static yX5_in, Cond.code yX5_in cX5_in 3 (some .boolean), Cond.methodLink RX5 50 yX5_ofSpan, Cond.instanceMethod yX5_ofSpan, Cond.selects RX5 yX5_ofSpan yX5_ofSpan, Cond.code yX5_ofSpan cX5_ofSpan 3 (some .int)]
def wsX5_digest_r2 : List Cond := [Cond.methodLink RX5 103 yX5_lengthsOf, Cond.instanceMethod yX5_lengthsOf, Cond.selects RX5 yX5_lengthsOf yX5_lengthsOf, Cond.code yX5_lengthsOf cX5_lengthsOf 2 (some .int), Cond.methodLink RX5 89 yX5_ones, Cond.static yX5_ones, Cond.code yX5_ones cX5_ones 3 (some .int), Cond.methodLink RX5 71 yX5_lossOf, Cond.instanceMethod yX5_lossOf, Cond.selects RX5 yX5_lossOf yX5_lossOf, Cond.code yX5_lossOf cX5_lossOf 4 (some .int), Cond.methodLink RX5 54 yX5_hardOf, Cond.static yX5_hardOf, Cond.code yX5_hardOf cX5_hardOf 1 (some .int), Cond.methodLink RX5 92 yX5_goRun, Cond.instanceMethod yX5_goRun, Cond.selects RX5 yX5_goRun yX5_goRun, Cond.code yX5_goRun cX5_goRun 5 (some .boolean), Cond.constant RX5 74 (-1000001), Cond.fieldLink RX5 58 "HoseSpansModel" "failsAt" "I", Cond.fieldLink RX5 61 "HoseSpansModel" "how" "I", Cond.fieldLink RX5 75 "HoseSpansModel" "last" "I", Cond.methodLink RX5 78 yX5_has, Cond.static yX5_has]
def wsX5_digest_r3 : List Cond := [Cond.code yX5_has cX5_has 2 (some .boolean), Cond.methodLink RX5 64 yX5_fail, Cond.instanceMethod yX5_fail, Cond.selects RX5 yX5_fail yX5_fail, Cond.code yX5_fail cX5_fail 3 none, Cond.methodLink RX5 82 yX5_goOver, Cond.instanceMethod yX5_goOver, Cond.selects RX5 yX5_goOver yX5_goOver, Cond.code yX5_goOver cX5_goOver 5 (some .int), Cond.methodLink RX5 68 yX5_standsOf, Cond.static yX5_standsOf, Cond.code yX5_standsOf cX5_standsOf 1 (some .int), Cond.methodLink RX5 145 yX5_ofRun, Cond.instanceMethod yX5_ofRun, Cond.selects RX5 yX5_ofRun yX5_ofRun, Cond.code yX5_ofRun cX5_ofRun 3 (some .int), Cond.methodLink RX5 148 yX5_fewestOf, Cond.instanceMethod yX5_fewestOf, Cond.selects RX5 yX5_fewestOf yX5_fewestOf, Cond.code yX5_fewestOf cX5_fewestOf 4 (some .int), Cond.fieldLink RX5 86 "HoseSpansModel" "fewestSet" "I", Cond.methodLink RX5 95 yX5_findFewest, Cond.instanceMethod yX5_findFewest, Cond.selects RX5 yX5_findFewest yX5_findFewest]
def wsX5_digest_r4 : List Cond := [Cond.code yX5_findFewest cX5_findFewest 4 (some .boolean), Cond.methodLink RX5 151 yX5_mostNow, Cond.instanceMethod yX5_mostNow, Cond.selects RX5 yX5_mostNow yX5_mostNow, Cond.code yX5_mostNow cX5_mostNow 3 (some .int)]
def wsX5_digest : List Cond := .code yX5_digest cX5_digest 5 (some .long) :: ((wsX5_digest_r1 ++ (wsX5_digest_r2 ++ (wsX5_digest_r3 ++ wsX5_digest_r4))) ++ wsX50)
def wsJ9_max_7cf53 : List Cond := .code yJ9_max_7cf53 cJ9_max_7cf53 2 (some .int) :: ([])
def wsJ9_min_7cf53 : List Cond := .code yJ9_min_7cf53 cJ9_min_7cf53 2 (some .int) :: ([])
def wsL_law_r1 : List Cond := [Cond.classLink RL 7 RX4, Cond.instantiable RX4 11, Cond.initialized RX4, Cond.classLink RL 10 RX5, Cond.instantiable RX5 16, Cond.initialized RX5, Cond.methodLink RL 9 yX4_init, Cond.instanceMethod yX4_init, Cond.code yX4_init cX4_init 2 none, Cond.methodLink RX4 3 objectInit, Cond.instanceMethod objectInit, Cond.code objectInit ⟨#[0xb1]⟩ 1 none, Cond.classLink RX4 9 RX0, Cond.instantiable RX0 4, Cond.initialized RX0, Cond.fieldLink RX4 12 "HoseSpans" "line" "LHoseSpans$Line;", Cond.fieldLink RX4 16 "HoseSpans" "before" "LHoseSpans$Line;", Cond.fieldLink RX4 19 "HoseSpans" "states" "[LHoseSpans$Line;", Cond.fieldLink RX4 23 "HoseSpans" "nextState" "I", Cond.fieldLink RX4 27 "HoseSpans" "statesLeft" "I", Cond.fieldLink RX4 30 "HoseSpans" "refusedBad" "I", Cond.fieldLink RX4 33 "HoseSpans" "refusedNo" "I", Cond.fieldLink RX4 36 "HoseSpans" "refusedFull" "I", Cond.classLink RX4 39 RX3]
def wsL_law_r2 : List Cond := [Cond.instantiable RX3 6, Cond.initialized RX3, Cond.fieldLink RX4 42 "HoseSpans" "text" "LHoseSpans$Text;", Cond.classLink RX4 46 RX2, Cond.instantiable RX2 4, Cond.initialized RX2, Cond.fieldLink RX4 49 "HoseSpans" "water" "LHoseSpans$Run;", Cond.classLink RX4 53 RX1, Cond.instantiable RX1 1, Cond.initialized RX1, Cond.fieldLink RX4 56 "HoseSpans" "search" "LHoseSpans$PumpSearch;", Cond.methodLink RX4 11 yX0_init, Cond.instanceMethod yX0_init, Cond.code yX0_init cX0_init 1 none, Cond.methodLink RX0 3 objectInit, Cond.fieldLink RX0 9 "HoseSpans$Line" "spans" "I", Cond.fieldLink RX0 15 "HoseSpans$Line" "pumps" "I", Cond.arrayClass .int, Cond.fieldLink RX0 18 "HoseSpans$Line" "facts" "[I", Cond.fieldLink RX0 22 "HoseSpans$Line" "settings" "[I", Cond.methodLink RX0 28 arraycopyName, Cond.native arraycopyName, Cond.static arraycopyName, Cond.initialized "java/lang/System"]
def wsL_law_r3 : List Cond := [Cond.instanceMethod yX3_init, Cond.code yX3_init cX3_init 1 none, Cond.methodLink RX3 3 objectInit, Cond.fieldLink RX3 9 "HoseSpans$Text" "length" "I", Cond.fieldLink RX3 15 "HoseSpans$Text" "orders" "I", Cond.fieldLink RX3 18 "HoseSpans$Text" "place" "I", Cond.arrayClass .byte, Cond.fieldLink RX3 21 "HoseSpans$Text" "letters" "[B", Cond.fieldLink RX3 25 "HoseSpans$Text" "bytes" "[B", Cond.fieldLink RX3 28 "HoseSpans$Text" "numbers" "[I", Cond.instanceMethod yX2_init, Cond.code yX2_init cX2_init 1 none, Cond.methodLink RX2 3 objectInit, Cond.constant RX2 9 (-1000001), Cond.fieldLink RX2 10 "HoseSpans$Run" "where" "I", Cond.fieldLink RX2 16 "HoseSpans$Run" "how" "I", Cond.fieldLink RX2 19 "HoseSpans$Run" "in" "[I", Cond.fieldLink RX2 23 "HoseSpans$Run" "behind" "[I", Cond.instanceMethod yX1_init, Cond.code yX1_init cX1_init 1 none, Cond.methodLink RX1 3 objectInit, Cond.fieldLink RX1 9 "HoseSpans$PumpSearch" "best" "[I", Cond.methodLink RL 12 yX5_init, Cond.instanceMethod yX5_init]
def wsL_law_r4 : List Cond := [Cond.code yX5_init cX5_init 1 none, Cond.methodLink RX5 1 objectInit, Cond.fieldLink RX5 7 "HoseSpansModel" "now" "[I", Cond.fieldLink RX5 13 "HoseSpansModel" "aside" "[I", Cond.fieldLink RX5 16 "HoseSpansModel" "past" "[I", Cond.fieldLink RX5 19 "HoseSpansModel" "refused" "[I", Cond.fieldLink RX5 22 "HoseSpansModel" "text" "[I", Cond.fieldLink RX5 25 "HoseSpansModel" "into" "[I", Cond.fieldLink RX5 28 "HoseSpansModel" "behind" "[I", Cond.fieldLink RX5 31 "HoseSpansModel" "said" "[I", Cond.fieldLink RX5 34 "HoseSpansModel" "behindAll" "[I", Cond.methodLink RL 13 yX4_span, Cond.instanceMethod yX4_span, Cond.selects RX4 yX4_span yX4_span, Cond.code yX4_span cX4_span 5 (some .int), Cond.methodLink RX4 60 yX4_keepBefore, Cond.instanceMethod yX4_keepBefore, Cond.selects RX4 yX4_keepBefore yX4_keepBefore, Cond.code yX4_keepBefore cX4_keepBefore 1 none, Cond.methodLink RX4 191 yX0_copyFrom, Cond.instanceMethod yX0_copyFrom, Cond.selects RX0 yX0_copyFrom yX0_copyFrom, Cond.code yX0_copyFrom cX0_copyFrom 2 none, Cond.methodLink RX4 63 yX0_addSpan]
def wsL_law_r5 : List Cond := [Cond.instanceMethod yX0_addSpan, Cond.selects RX0 yX0_addSpan yX0_addSpan, Cond.code yX0_addSpan cX0_addSpan 5 (some .int), Cond.constant RX0 38 (-1000002), Cond.constant RX0 39 (-1000004), Cond.static yX4_within, Cond.code yX4_within cX4_within 3 (some .boolean), Cond.methodLink RX0 40 yX0_setFact, Cond.instanceMethod yX0_setFact, Cond.selects RX0 yX0_setFact yX0_setFact, Cond.code yX0_setFact cX0_setFact 4 none, Cond.methodLink RX4 67 yX4_settled, Cond.instanceMethod yX4_settled, Cond.selects RX4 yX4_settled yX4_settled, Cond.code yX4_settled cX4_settled 2 (some .int), Cond.methodLink RX4 223 Lib.Math.min.name, Cond.static Lib.Math.min.name, Cond.initialized "java/lang/Math", Cond.code Lib.Math.min.name Lib.Math.min.code 2 (some .int), Cond.methodLink RX4 188 yX4_isRefusal, Cond.static yX4_isRefusal, Cond.code yX4_isRefusal cX4_isRefusal 1 (some .boolean), Cond.constant RX4 118 (-1000002), Cond.constant RX4 97 (-1000003)]
def wsL_law_r6 : List Cond := [Cond.constant RX4 170 (-1000004), Cond.methodLink RX4 98 yX4_counted, Cond.instanceMethod yX4_counted, Cond.selects RX4 yX4_counted yX4_counted, Cond.code yX4_counted cX4_counted 2 (some .int), Cond.methodLink RL 17 yX5_span, Cond.instanceMethod yX5_span, Cond.selects RX5 yX5_span yX5_span, Cond.code yX5_span cX5_span 5 (some .int), Cond.methodLink RX5 138 yX5_say, Cond.instanceMethod yX5_say, Cond.selects RX5 yX5_say yX5_say, Cond.code yX5_say cX5_say 5 none, Cond.methodLink RX5 142 yX5_call, Cond.instanceMethod yX5_call, Cond.selects RX5 yX5_call yX5_call, Cond.code yX5_call cX5_call 3 (some .int), Cond.methodLink RX5 126 yX5_barOf, Cond.instanceMethod yX5_barOf, Cond.selects RX5 yX5_barOf yX5_barOf, Cond.code yX5_barOf cX5_barOf 2 (some .int), Cond.constant RX5 37 (-1000002), Cond.constant RX5 106 (-1000003), Cond.methodLink RX5 107 yX5_barSpan]
def wsL_law_r7 : List Cond := [Cond.instanceMethod yX5_barSpan, Cond.selects RX5 yX5_barSpan yX5_barSpan, Cond.code yX5_barSpan cX5_barSpan 2 (some .int), Cond.constant RX5 99 (-1000004), Cond.methodLink RX5 46 yX5_in, Cond.static yX5_in, Cond.code yX5_in cX5_in 3 (some .boolean), Cond.methodLink RX5 111 yX5_leastOf, Cond.static yX5_leastOf, Cond.code yX5_leastOf cX5_leastOf 1 (some .int), Cond.methodLink RX5 114 yX5_mostOf, Cond.static yX5_mostOf, Cond.code yX5_mostOf cX5_mostOf 1 (some .int), Cond.methodLink RX5 117 yX5_isNode, Cond.instanceMethod yX5_isNode, Cond.selects RX5 yX5_isNode yX5_isNode, Cond.code yX5_isNode cX5_isNode 2 (some .boolean), Cond.methodLink RX5 100 yX5_isSpan, Cond.instanceMethod yX5_isSpan, Cond.selects RX5 yX5_isSpan yX5_isSpan, Cond.code yX5_isSpan cX5_isSpan 2 (some .boolean), Cond.methodLink RX5 120 yX5_barMend, Cond.instanceMethod yX5_barMend, Cond.selects RX5 yX5_barMend yX5_barMend]
def wsL_law_r8 : List Cond := [Cond.code yX5_barMend cX5_barMend 2 (some .int), Cond.methodLink RX5 50 yX5_ofSpan, Cond.instanceMethod yX5_ofSpan, Cond.selects RX5 yX5_ofSpan yX5_ofSpan, Cond.code yX5_ofSpan cX5_ofSpan 3 (some .int), Cond.methodLink RX5 103 yX5_lengthsOf, Cond.instanceMethod yX5_lengthsOf, Cond.selects RX5 yX5_lengthsOf yX5_lengthsOf, Cond.code yX5_lengthsOf cX5_lengthsOf 2 (some .int), Cond.methodLink RX5 129 yX5_refuse, Cond.instanceMethod yX5_refuse, Cond.selects RX5 yX5_refuse yX5_refuse, Cond.code yX5_refuse cX5_refuse 2 (some .int), Cond.methodLink RX5 132 yX5_note, Cond.instanceMethod yX5_note, Cond.selects RX5 yX5_note yX5_note, Cond.code yX5_note cX5_note 2 none, Cond.fieldLink RX5 38 "HoseSpansModel" "states" "I", Cond.methodLink RX5 42 yX5_bring, Cond.static yX5_bring, Cond.code yX5_bring cX5_bring 5 none, Cond.methodLink RX5 135 yX5_act, Cond.instanceMethod yX5_act, Cond.selects RX5 yX5_act yX5_act]
def wsL_law_r9 : List Cond := [Cond.code yX5_act cX5_act 4 (some .int), Cond.methodLink RX5 123 yX5_doSpan, Cond.instanceMethod yX5_doSpan, Cond.selects RX5 yX5_doSpan yX5_doSpan, Cond.code yX5_doSpan cX5_doSpan 3 (some .int), Cond.methodLink RX5 89 yX5_ones, Cond.static yX5_ones, Cond.code yX5_ones cX5_ones 3 (some .int), Cond.methodLink RL 18 yX4_cuts, Cond.instanceMethod yX4_cuts, Cond.selects RX4 yX4_cuts yX4_cuts, Cond.code yX4_cuts cX4_cuts 1 (some .int), Cond.methodLink RX4 71 yX0_cutLast, Cond.instanceMethod yX0_cutLast, Cond.selects RX0 yX0_cutLast yX0_cutLast, Cond.code yX0_cutLast cX0_cutLast 1 (some .int), Cond.constant RX0 44 (-1000003), Cond.methodLink RL 22 yX5_cuts, Cond.instanceMethod yX5_cuts, Cond.selects RX5 yX5_cuts yX5_cuts, Cond.code yX5_cuts cX5_cuts 1 (some .int), Cond.methodLink RL 23 yX4_sets, Cond.instanceMethod yX4_sets, Cond.selects RX4 yX4_sets yX4_sets]
def wsL_law_r10 : List Cond := [Cond.code yX4_sets cX4_sets 3 (some .int), Cond.methodLink RX4 75 yX0_changeSetting, Cond.instanceMethod yX0_changeSetting, Cond.selects RX0 yX0_changeSetting yX0_changeSetting, Cond.code yX0_changeSetting cX0_changeSetting 4 (some .int), Cond.methodLink RL 27 yX5_sets, Cond.instanceMethod yX5_sets, Cond.selects RX5 yX5_sets yX5_sets, Cond.code yX5_sets cX5_sets 3 (some .int), Cond.methodLink RL 28 yX4_pumps, Cond.instanceMethod yX4_pumps, Cond.selects RX4 yX4_pumps yX4_pumps, Cond.code yX4_pumps cX4_pumps 2 (some .int), Cond.methodLink RX4 79 yX0_turnPump, Cond.instanceMethod yX0_turnPump, Cond.selects RX0 yX0_turnPump yX0_turnPump, Cond.code yX0_turnPump cX0_turnPump 2 (some .int), Cond.methodLink RX0 51 yX0_hasNode, Cond.instanceMethod yX0_hasNode, Cond.selects RX0 yX0_hasNode yX0_hasNode, Cond.code yX0_hasNode cX0_hasNode 2 (some .boolean), Cond.methodLink RX0 55 yJ6_bitCount_0f7a4, Cond.static yJ6_bitCount_0f7a4, Cond.initialized RJ6]
def wsL_law_r11 : List Cond := [Cond.code yJ6_bitCount_0f7a4 cJ6_bitCount_0f7a4 1 (some .int), Cond.constant RJ6 265 (1431655765), Cond.constant RJ6 266 (858993459), Cond.constant RJ6 267 (252645135), Cond.methodLink RL 32 yX5_pumps, Cond.instanceMethod yX5_pumps, Cond.selects RX5 yX5_pumps yX5_pumps, Cond.code yX5_pumps cX5_pumps 2 (some .int), Cond.methodLink RL 33 yX4_bursts, Cond.instanceMethod yX4_bursts, Cond.selects RX4 yX4_bursts yX4_bursts, Cond.code yX4_bursts cX4_bursts 2 (some .int), Cond.methodLink RX4 82 yX0_burstSpan, Cond.instanceMethod yX0_burstSpan, Cond.selects RX0 yX0_burstSpan yX0_burstSpan, Cond.code yX0_burstSpan cX0_burstSpan 3 (some .int), Cond.methodLink RX0 61 yX0_hasSpan, Cond.instanceMethod yX0_hasSpan, Cond.selects RX0 yX0_hasSpan yX0_hasSpan, Cond.code yX0_hasSpan cX0_hasSpan 2 (some .boolean), Cond.methodLink RX0 64 yX0_fact, Cond.instanceMethod yX0_fact, Cond.selects RX0 yX0_fact yX0_fact, Cond.code yX0_fact cX0_fact 3 (some .int)]
def wsL_law_r12 : List Cond := [Cond.methodLink RL 36 yX5_bursts, Cond.instanceMethod yX5_bursts, Cond.selects RX5 yX5_bursts yX5_bursts, Cond.code yX5_bursts cX5_bursts 2 (some .int), Cond.methodLink RL 37 yX4_mends, Cond.instanceMethod yX4_mends, Cond.selects RX4 yX4_mends yX4_mends, Cond.code yX4_mends cX4_mends 2 (some .int), Cond.methodLink RX4 85 yX0_mendSpan, Cond.instanceMethod yX0_mendSpan, Cond.selects RX0 yX0_mendSpan yX0_mendSpan, Cond.code yX0_mendSpan cX0_mendSpan 2 (some .int), Cond.methodLink RX0 68 yX0_hosesOf, Cond.instanceMethod yX0_hosesOf, Cond.selects RX0 yX0_hosesOf yX0_hosesOf, Cond.code yX0_hosesOf cX0_hosesOf 2 (some .int), Cond.methodLink RL 40 yX5_mends, Cond.instanceMethod yX5_mends, Cond.selects RX5 yX5_mends yX5_mends, Cond.code yX5_mends cX5_mends 2 (some .int), Cond.methodLink RL 41 yX4_lays, Cond.instanceMethod yX4_lays, Cond.selects RX4 yX4_lays yX4_lays, Cond.code yX4_lays cX4_lays 2 (some .int)]
def wsL_law_r13 : List Cond := [Cond.fieldLink RX4 88 "HoseSpans$Line" "settings" "[I", Cond.constant RX4 96 (1073741824), Cond.fieldLink RX4 104 "HoseSpans$Line" "pumps" "I", Cond.methodLink RX4 92 yX1_bestSet, Cond.instanceMethod yX1_bestSet, Cond.selects RX1 yX1_bestSet yX1_bestSet, Cond.code yX1_bestSet cX1_bestSet 4 (some .int), Cond.constant RX1 15 (1073741824), Cond.fieldLink RX1 22 "HoseSpans$Line" "settings" "[I", Cond.fieldLink RX1 31 "HoseSpans$Line" "spans" "I", Cond.methodLink RX1 16 yJ7_fill_53178, Cond.static yJ7_fill_53178, Cond.initialized RJ7, Cond.code yJ7_fill_53178 cJ7_fill_53178 4 none, Cond.methodLink RX1 27 yX1_leadOn, Cond.instanceMethod yX1_leadOn, Cond.selects RX1 yX1_leadOn yX1_leadOn, Cond.code yX1_leadOn cX1_leadOn 8 none, Cond.methodLink RX1 35 Lib.Math.min.name, Cond.methodLink RX1 41 yX0_failureOf, Cond.instanceMethod yX0_failureOf, Cond.selects RX0 yX0_failureOf yX0_failureOf, Cond.code yX0_failureOf cX0_failureOf 4 (some .int), Cond.methodLink RX0 77 yX0_lossBy]
def wsL_law_r14 : List Cond := [Cond.instanceMethod yX0_lossBy, Cond.selects RX0 yX0_lossBy yX0_lossBy, Cond.code yX0_lossBy cX0_lossBy 4 (some .int), Cond.methodLink RX1 45 yX0_lossBy, Cond.methodLink RX4 101 yX4_bitsOf, Cond.static yX4_bitsOf, Cond.code yX4_bitsOf cX4_bitsOf 1 (some .int), Cond.methodLink RX4 107 yX4_sizeOf, Cond.static yX4_sizeOf, Cond.code yX4_sizeOf cX4_sizeOf 1 (some .int), Cond.methodLink RL 44 yX5_lays, Cond.instanceMethod yX5_lays, Cond.selects RX5 yX5_lays yX5_lays, Cond.code yX5_lays cX5_lays 1 (some .int), Cond.fieldLink RX5 86 "HoseSpansModel" "fewestSet" "I", Cond.methodLink RX5 95 yX5_findFewest, Cond.instanceMethod yX5_findFewest, Cond.selects RX5 yX5_findFewest yX5_findFewest, Cond.code yX5_findFewest cX5_findFewest 4 (some .boolean), Cond.constant RX5 74 (-1000001), Cond.methodLink RX5 92 yX5_goRun, Cond.instanceMethod yX5_goRun, Cond.selects RX5 yX5_goRun yX5_goRun, Cond.code yX5_goRun cX5_goRun 5 (some .boolean)]
def wsL_law_r15 : List Cond := [Cond.fieldLink RX5 58 "HoseSpansModel" "failsAt" "I", Cond.fieldLink RX5 61 "HoseSpansModel" "how" "I", Cond.fieldLink RX5 75 "HoseSpansModel" "last" "I", Cond.methodLink RX5 78 yX5_has, Cond.static yX5_has, Cond.code yX5_has cX5_has 2 (some .boolean), Cond.methodLink RX5 64 yX5_fail, Cond.instanceMethod yX5_fail, Cond.selects RX5 yX5_fail yX5_fail, Cond.code yX5_fail cX5_fail 3 none, Cond.methodLink RX5 82 yX5_goOver, Cond.instanceMethod yX5_goOver, Cond.selects RX5 yX5_goOver yX5_goOver, Cond.code yX5_goOver cX5_goOver 5 (some .int), Cond.methodLink RX5 68 yX5_standsOf, Cond.static yX5_standsOf, Cond.code yX5_standsOf cX5_standsOf 1 (some .int), Cond.methodLink RX5 71 yX5_lossOf, Cond.instanceMethod yX5_lossOf, Cond.selects RX5 yX5_lossOf yX5_lossOf, Cond.code yX5_lossOf cX5_lossOf 4 (some .int), Cond.methodLink RX5 54 yX5_hardOf, Cond.static yX5_hardOf, Cond.code yX5_hardOf cX5_hardOf 1 (some .int)]
def wsL_law_r16 : List Cond := [Cond.methodLink RL 45 yX4_of, Cond.instanceMethod yX4_of, Cond.selects RX4 yX4_of yX4_of, Cond.code yX4_of cX4_of 3 (some .int), Cond.methodLink RX4 110 yX0_hasSpan, Cond.methodLink RX4 114 yX4_within, Cond.methodLink RX4 119 yX0_fact, Cond.methodLink RL 48 yX5_of, Cond.instanceMethod yX5_of, Cond.selects RX5 yX5_of yX5_of, Cond.code yX5_of cX5_of 3 (some .int), Cond.methodLink RL 49 yX4_loss, Cond.instanceMethod yX4_loss, Cond.selects RX4 yX4_loss yX4_loss, Cond.code yX4_loss cX4_loss 3 (some .int), Cond.methodLink RX4 122 yX0_lossBy, Cond.methodLink RL 52 yX5_loss, Cond.instanceMethod yX5_loss, Cond.selects RX5 yX5_loss yX5_loss, Cond.code yX5_loss cX5_loss 3 (some .int), Cond.methodLink RL 53 yX4_node, Cond.instanceMethod yX4_node, Cond.selects RX4 yX4_node yX4_node, Cond.code yX4_node cX4_node 3 (some .int)]
def wsL_law_r17 : List Cond := [Cond.fieldLink RX4 132 "HoseSpans$Run" "in" "[I", Cond.fieldLink RX4 135 "HoseSpans$Run" "behind" "[I", Cond.methodLink RX4 125 yX0_hasNode, Cond.methodLink RX4 128 yX2_follow, Cond.instanceMethod yX2_follow, Cond.selects RX2 yX2_follow yX2_follow, Cond.code yX2_follow cX2_follow 5 none, Cond.fieldLink RX2 32 "HoseSpans$Line" "settings" "[I", Cond.fieldLink RX2 37 "HoseSpans$Line" "spans" "I", Cond.methodLink RX2 26 yJ7_fill_53178, Cond.methodLink RX2 40 yX2_failureAt, Cond.instanceMethod yX2_failureAt, Cond.selects RX2 yX2_failureAt yX2_failureAt, Cond.code yX2_failureAt cX2_failureAt 7 (some .int), Cond.methodLink RX2 52 Lib.Math.max.name, Cond.static Lib.Math.max.name, Cond.code Lib.Math.max.name Lib.Math.max.code 2 (some .int), Cond.methodLink RX2 48 yX0_hasPump, Cond.instanceMethod yX0_hasPump, Cond.selects RX0 yX0_hasPump yX0_hasPump, Cond.code yX0_hasPump cX0_hasPump 2 (some .boolean), Cond.methodLink RX2 57 yX0_failureOf, Cond.methodLink RX2 44 yX0_lossBy, Cond.methodLink RL 56 yX5_node]
def wsL_law_r18 : List Cond := [Cond.instanceMethod yX5_node, Cond.selects RX5 yX5_node yX5_node, Cond.code yX5_node cX5_node 4 (some .int), Cond.methodLink RL 57 yX4_run, Cond.instanceMethod yX4_run, Cond.selects RX4 yX4_run yX4_run, Cond.code yX4_run cX4_run 2 (some .int), Cond.fieldLink RX4 138 "HoseSpans$Run" "where" "I", Cond.fieldLink RX4 141 "HoseSpans$Run" "how" "I", Cond.fieldLink RX4 144 "HoseSpans$Line" "spans" "I", Cond.methodLink RL 60 yX5_run, Cond.instanceMethod yX5_run, Cond.selects RX5 yX5_run yX5_run, Cond.code yX5_run cX5_run 2 (some .int), Cond.methodLink RX5 145 yX5_ofRun, Cond.instanceMethod yX5_ofRun, Cond.selects RX5 yX5_ofRun yX5_ofRun, Cond.code yX5_ofRun cX5_ofRun 3 (some .int), Cond.methodLink RL 61 yX4_fewest, Cond.instanceMethod yX4_fewest, Cond.selects RX4 yX4_fewest yX4_fewest, Cond.code yX4_fewest cX4_fewest 4 (some .int), Cond.constant RX4 147 (-1000001), Cond.methodLink RL 64 yX5_fewest]
def wsL_law_r19 : List Cond := [Cond.instanceMethod yX5_fewest, Cond.selects RX5 yX5_fewest yX5_fewest, Cond.code yX5_fewest cX5_fewest 3 (some .int), Cond.methodLink RX5 148 yX5_fewestOf, Cond.instanceMethod yX5_fewestOf, Cond.selects RX5 yX5_fewestOf yX5_fewestOf, Cond.code yX5_fewestOf cX5_fewestOf 4 (some .int), Cond.methodLink RL 65 yX4_most, Cond.instanceMethod yX4_most, Cond.selects RX4 yX4_most yX4_most, Cond.code yX4_most cX4_most 2 (some .int), Cond.methodLink RL 68 yX5_most, Cond.instanceMethod yX5_most, Cond.selects RX5 yX5_most yX5_most, Cond.code yX5_most cX5_most 1 (some .int), Cond.methodLink RX5 151 yX5_mostNow, Cond.instanceMethod yX5_mostNow, Cond.selects RX5 yX5_mostNow yX5_mostNow, Cond.code yX5_mostNow cX5_mostNow 3 (some .int), Cond.methodLink RL 69 yX4_count, Cond.instanceMethod yX4_count, Cond.selects RX4 yX4_count yX4_count, Cond.code yX4_count cX4_count 2 (some .int), Cond.methodLink RX4 148 yJ6_bitCount_0f7a4]
def wsL_law_r20 : List Cond := [Cond.methodLink RX4 153 yX0_burstSpans, Cond.instanceMethod yX0_burstSpans, Cond.selects RX0 yX0_burstSpans yX0_burstSpans, Cond.code yX0_burstSpans cX0_burstSpans 3 (some .int), Cond.methodLink RX4 156 yX0_allLengths, Cond.instanceMethod yX0_allLengths, Cond.selects RX0 yX0_allLengths yX0_allLengths, Cond.code yX0_allLengths cX0_allLengths 3 (some .int), Cond.methodLink RL 72 yX5_count, Cond.instanceMethod yX5_count, Cond.selects RX5 yX5_count yX5_count, Cond.code yX5_count cX5_count 2 (some .int), Cond.methodLink RX5 154 yX5_countOf, Cond.instanceMethod yX5_countOf, Cond.selects RX5 yX5_countOf yX5_countOf, Cond.code yX5_countOf cX5_countOf 5 (some .int), Cond.methodLink RL 73 yX4_shuttle, Cond.instanceMethod yX4_shuttle, Cond.selects RX4 yX4_shuttle yX4_shuttle, Cond.code yX4_shuttle cX4_shuttle 6 (some .int), Cond.methodLink RX4 159 yX4_isTrip, Cond.static yX4_isTrip, Cond.code yX4_isTrip cX4_isTrip 4 (some .boolean), Cond.methodLink RX4 163 yX4_broughtInHour]
def wsL_law_r21 : List Cond := [Cond.static yX4_broughtInHour, Cond.code yX4_broughtInHour cX4_broughtInHour 5 (some .int), Cond.methodLink RL 77 yX5_shuttle, Cond.instanceMethod yX5_shuttle, Cond.selects RX5 yX5_shuttle yX5_shuttle, Cond.code yX5_shuttle cX5_shuttle 6 (some .int), Cond.methodLink RX5 157 yX5_areTimes, Cond.static yX5_areTimes, Cond.code yX5_areTimes cX5_areTimes 4 (some .boolean), Cond.methodLink RX5 161 yX5_bringsBy, Cond.static yX5_bringsBy, Cond.code yX5_bringsBy cX5_bringsBy 6 (some .int), Cond.methodLink RL 78 yX4_tanks, Cond.instanceMethod yX4_tanks, Cond.selects RX4 yX4_tanks yX4_tanks, Cond.code yX4_tanks cX4_tanks 7 (some .int), Cond.methodLink RL 81 yX5_tanks, Cond.instanceMethod yX5_tanks, Cond.selects RX5 yX5_tanks yX5_tanks, Cond.code yX5_tanks cX5_tanks 7 (some .int), Cond.methodLink RL 82 yX4_type, Cond.instanceMethod yX4_type, Cond.selects RX4 yX4_type yX4_type, Cond.code yX4_type cX4_type 2 (some .int)]
def wsL_law_r22 : List Cond := [Cond.fieldLink RX4 167 "HoseSpans$Text" "length" "I", Cond.methodLink RX4 171 yX3_put, Cond.instanceMethod yX3_put, Cond.selects RX3 yX3_put yX3_put, Cond.code yX3_put cX3_put 2 none, Cond.methodLink RL 85 yX5_type, Cond.instanceMethod yX5_type, Cond.selects RX5 yX5_type yX5_type, Cond.code yX5_type cX5_type 2 (some .int), Cond.fieldLink RX5 165 "HoseSpansModel" "bytes" "I", Cond.methodLink RL 86 yX4_clear, Cond.instanceMethod yX4_clear, Cond.selects RX4 yX4_clear yX4_clear, Cond.code yX4_clear cX4_clear 2 (some .int), Cond.methodLink RL 89 yX5_clear, Cond.instanceMethod yX5_clear, Cond.selects RX5 yX5_clear yX5_clear, Cond.code yX5_clear cX5_clear 2 (some .int), Cond.methodLink RL 90 yX4_does, Cond.instanceMethod yX4_does, Cond.selects RX4 yX4_does yX4_does, Cond.code yX4_does cX4_does 2 (some .int), Cond.fieldLink RX4 179 "HoseSpans$Text" "place" "I", Cond.fieldLink RX4 182 "HoseSpans$Text" "orders" "I"]
def wsL_law_r23 : List Cond := [Cond.methodLink RX4 175 yX3_isRead, Cond.instanceMethod yX3_isRead, Cond.selects RX3 yX3_isRead yX3_isRead, Cond.code yX3_isRead cX3_isRead 1 (some .boolean), Cond.methodLink RX3 32 yX3_skipBlanks, Cond.instanceMethod yX3_skipBlanks, Cond.selects RX3 yX3_skipBlanks yX3_skipBlanks, Cond.code yX3_skipBlanks cX3_skipBlanks 1 none, Cond.methodLink RX3 35 yX3_takesOrder, Cond.instanceMethod yX3_takesOrder, Cond.selects RX3 yX3_takesOrder yX3_takesOrder, Cond.code yX3_takesOrder cX3_takesOrder 4 (some .boolean), Cond.methodLink RX3 39 yX3_byteHere, Cond.instanceMethod yX3_byteHere, Cond.selects RX3 yX3_byteHere yX3_byteHere, Cond.code yX3_byteHere cX3_byteHere 1 (some .int), Cond.methodLink RX3 43 yX3_numbersOf, Cond.static yX3_numbersOf, Cond.code yX3_numbersOf cX3_numbersOf 1 (some .int), Cond.methodLink RX3 47 yX3_takesNumber, Cond.instanceMethod yX3_takesNumber, Cond.selects RX3 yX3_takesNumber yX3_takesNumber, Cond.code yX3_takesNumber cX3_takesNumber 6 (some .boolean), Cond.methodLink RX3 51 yX3_isFigureHere]
def wsL_law_r24 : List Cond := [Cond.instanceMethod yX3_isFigureHere, Cond.selects RX3 yX3_isFigureHere yX3_isFigureHere, Cond.code yX3_isFigureHere cX3_isFigureHere 1 (some .boolean), Cond.methodLink RX4 185 yX4_obeyed, Cond.instanceMethod yX4_obeyed, Cond.selects RX4 yX4_obeyed yX4_obeyed, Cond.code yX4_obeyed cX4_obeyed 4 (some .int), Cond.fieldLink RX4 231 "HoseSpans$Text" "letters" "[B", Cond.methodLink RX4 228 yX3_number, Cond.instanceMethod yX3_number, Cond.selects RX3 yX3_number yX3_number, Cond.code yX3_number cX3_number 3 (some .int), Cond.methodLink RL 93 yX5_does, Cond.instanceMethod yX5_does, Cond.selects RX5 yX5_does yX5_does, Cond.code yX5_does cX5_does 6 (some .int), Cond.fieldLink RX5 168 "HoseSpansModel" "at" "I", Cond.methodLink RX5 188 yX5_findFault, Cond.instanceMethod yX5_findFault, Cond.selects RX5 yX5_findFault yX5_findFault, Cond.code yX5_findFault cX5_findFault 2 (some .int), Cond.methodLink RX5 171 yX5_skip, Cond.instanceMethod yX5_skip, Cond.selects RX5 yX5_skip yX5_skip]
def wsL_law_r25 : List Cond := [Cond.code yX5_skip cX5_skip 1 none, Cond.methodLink RX5 185 yX5_readOrder, Cond.instanceMethod yX5_readOrder, Cond.selects RX5 yX5_readOrder yX5_readOrder, Cond.code yX5_readOrder cX5_readOrder 4 (some .boolean), Cond.methodLink RX5 178 yX5_numbersOf, Cond.static yX5_numbersOf, Cond.code yX5_numbersOf cX5_numbersOf 1 (some .int), Cond.methodLink RX5 181 yX5_readNumber, Cond.instanceMethod yX5_readNumber, Cond.selects RX5 yX5_readNumber yX5_readNumber, Cond.code yX5_readNumber cX5_readNumber 6 (some .boolean), Cond.methodLink RX5 174 yX5_isFigure, Cond.instanceMethod yX5_isFigure, Cond.selects RX5 yX5_isFigure yX5_isFigure, Cond.code yX5_isFigure cX5_isFigure 1 (some .boolean), Cond.methodLink RL 94 yX4_back, Cond.instanceMethod yX4_back, Cond.selects RX4 yX4_back yX4_back, Cond.code yX4_back cX4_back 1 (some .int), Cond.methodLink RL 97 yX5_back, Cond.instanceMethod yX5_back, Cond.selects RX5 yX5_back yX5_back, Cond.code yX5_back cX5_back 1 (some .int)]
def wsL_law_r26 : List Cond := [Cond.methodLink RL 98 yX4_told, Cond.instanceMethod yX4_told, Cond.selects RX4 yX4_told yX4_told, Cond.code yX4_told cX4_told 2 (some .int), Cond.methodLink RL 101 yX5_told, Cond.instanceMethod yX5_told, Cond.selects RX5 yX5_told yX5_told, Cond.code yX5_told cX5_told 2 (some .int), Cond.methodLink RX5 191 yX5_toldOf, Cond.instanceMethod yX5_toldOf, Cond.selects RX5 yX5_toldOf yX5_toldOf, Cond.code yX5_toldOf cX5_toldOf 2 (some .int), Cond.methodLink RL 102 yX4_digest, Cond.instanceMethod yX4_digest, Cond.selects RX4 yX4_digest yX4_digest, Cond.code yX4_digest cX4_digest 6 (some .long), Cond.constantLong RX4 195 (2920), Cond.constantLong RX4 197 (31), Cond.methodLink RX4 199 yX4_told, Cond.methodLink RX4 202 yX4_count, Cond.methodLink RX4 205 yX4_of, Cond.methodLink RX4 208 yX4_loss, Cond.methodLink RX4 211 yX4_node, Cond.methodLink RX4 214 yX4_run]
def wsL_law_r27 : List Cond := [Cond.methodLink RX4 217 yX4_fewest, Cond.methodLink RX4 220 yX4_most, Cond.methodLink RL 106 yX5_digest, Cond.instanceMethod yX5_digest, Cond.selects RX5 yX5_digest yX5_digest, Cond.code yX5_digest cX5_digest 5 (some .long), Cond.constantLong RX5 194 (2920), Cond.constantLong RX5 196 (31)]
def wsL_law : List Cond := (wsL_law_r1 ++ (wsL_law_r2 ++ (wsL_law_r3 ++ (wsL_law_r4 ++ (wsL_law_r5 ++ (wsL_law_r6 ++ (wsL_law_r7 ++ (wsL_law_r8 ++ (wsL_law_r9 ++ (wsL_law_r10 ++ (wsL_law_r11 ++ (wsL_law_r12 ++ (wsL_law_r13 ++ (wsL_law_r14 ++ (wsL_law_r15 ++ (wsL_law_r16 ++ (wsL_law_r17 ++ (wsL_law_r18 ++ (wsL_law_r19 ++ (wsL_law_r20 ++ (wsL_law_r21 ++ (wsL_law_r22 ++ (wsL_law_r23 ++ (wsL_law_r24 ++ (wsL_law_r25 ++ (wsL_law_r26 ++ wsL_law_r27)))))))))))))))))))))))))) ++ wsX40 ++ wsX50 ++ wsX00 ++ wsX30 ++ wsX20 ++ wsX10 ++ ([] : List Cond)
end
section
theorem mem_r {big : List Cond} (ws : List Cond) (ps : List Nat) (hp : ws = ps.filterMap (fun i => big[i]?)) : ∀ w ∈ ws, w ∈ big := by
  intro w hw
  rw [hp] at hw
  obtain ⟨i, -, hi⟩ := List.mem_filterMap.mp hw
  exact List.mem_of_getElem? hi
set_option maxRecDepth 20000 in
theorem wl_wsL_law_r1 : ∀ w ∈ wsL_law_r1, w ∈ lw_tbl := mem_r wsL_law_r1 [50, 51, 40, 484, 485, 46, 52, 53, 54, 55, 56, 57, 58, 59, 41, 155, 156, 157, 158, 159, 160, 161, 162, 91] (by decide +kernel)
set_option maxRecDepth 20000 in
theorem wl_wsL_law_r2 : ∀ w ∈ wsL_law_r2, w ∈ lw_tbl := mem_r wsL_law_r2 [92, 43, 163, 121, 122, 44, 164, 145, 146, 45, 165, 60, 61, 62, 63, 69, 73, 89, 75, 76, 66, 68, 67, 42] (by decide +kernel)
set_option maxRecDepth 20000 in
theorem wl_wsL_law_r3 : ∀ w ∈ wsL_law_r3, w ∈ lw_tbl := mem_r wsL_law_r3 [94, 95, 96, 97, 99, 101, 120, 103, 105, 106, 124, 125, 126, 127, 128, 130, 132, 134, 148, 149, 150, 151, 486, 487] (by decide +kernel)
set_option maxRecDepth 20000 in
theorem wl_wsL_law_r4 : ∀ w ∈ wsL_law_r4, w ∈ lw_tbl := mem_r wsL_law_r4 [488, 489, 490, 491, 492, 494, 495, 498, 499, 504, 505, 189, 190, 191, 192, 193, 195, 0, 196, 197, 198, 199, 200, 201] (by decide +kernel)
set_option maxRecDepth 20000 in
theorem wl_wsL_law_r5 : ∀ w ∈ wsL_law_r5, w ∈ lw_tbl := mem_r wsL_law_r5 [202, 203, 204, 208, 209, 206, 207, 210, 211, 212, 213, 214, 216, 1, 217, 228, 229, 47, 230, 218, 219, 220, 221, 222] (by decide +kernel)
set_option maxRecDepth 20000 in
theorem wl_wsL_law_r6 : ∀ w ∈ wsL_law_r6, w ∈ lw_tbl := mem_r wsL_law_r6 [223, 224, 226, 2, 227, 539, 540, 541, 542, 543, 545, 11, 546, 547, 549, 12, 550, 551, 553, 13, 554, 562, 590, 555] (by decide +kernel)
set_option maxRecDepth 20000 in
theorem wl_wsL_law_r7 : ∀ w ∈ wsL_law_r7, w ∈ lw_tbl := mem_r wsL_law_r7 [557, 14, 558, 563, 559, 560, 561, 564, 565, 566, 567, 568, 569, 570, 572, 15, 573, 574, 576, 16, 577, 578, 580, 17] (by decide +kernel)
set_option maxRecDepth 20000 in
theorem wl_wsL_law_r8 : ∀ w ∈ wsL_law_r8, w ∈ lw_tbl := mem_r wsL_law_r8 [581, 582, 584, 18, 585, 586, 588, 19, 589, 591, 593, 20, 594, 595, 597, 21, 598, 493, 599, 600, 601, 602, 604, 22] (by decide +kernel)
set_option maxRecDepth 20000 in
theorem wl_wsL_law_r9 : ∀ w ∈ wsL_law_r9, w ∈ lw_tbl := mem_r wsL_law_r9 [605, 606, 608, 23, 609, 610, 611, 612, 231, 232, 233, 234, 235, 236, 237, 238, 239, 613, 614, 615, 616, 240, 241, 242] (by decide +kernel)
end
section
set_option maxRecDepth 20000 in
theorem wl_wsL_law_r10 : ∀ w ∈ wsL_law_r10, w ∈ lw_tbl := mem_r wsL_law_r10 [243, 244, 245, 246, 247, 617, 618, 619, 620, 252, 253, 254, 255, 256, 257, 258, 259, 260, 261, 262, 263, 264, 265, 48] (by decide +kernel)
set_option maxRecDepth 20000 in
theorem wl_wsL_law_r11 : ∀ w ∈ wsL_law_r11, w ∈ lw_tbl := mem_r wsL_law_r11 [266, 267, 268, 269, 621, 622, 623, 624, 270, 271, 272, 273, 274, 275, 276, 277, 278, 279, 280, 281, 282, 283, 284, 285] (by decide +kernel)
set_option maxRecDepth 20000 in
theorem wl_wsL_law_r12 : ∀ w ∈ wsL_law_r12, w ∈ lw_tbl := mem_r wsL_law_r12 [625, 626, 627, 628, 286, 287, 288, 289, 290, 291, 292, 293, 294, 295, 296, 297, 629, 630, 631, 632, 298, 299, 300, 301] (by decide +kernel)
set_option maxRecDepth 20000 in
theorem wl_wsL_law_r13 : ∀ w ∈ wsL_law_r13, w ∈ lw_tbl := mem_r wsL_law_r13 [79, 328, 74, 302, 303, 304, 305, 306, 77, 70, 307, 308, 49, 309, 310, 312, 3, 313, 314, 315, 316, 317, 318, 321] (by decide +kernel)
set_option maxRecDepth 20000 in
theorem wl_wsL_law_r14 : ∀ w ∈ wsL_law_r14, w ∈ lw_tbl := mem_r wsL_law_r14 [322, 323, 324, 327, 329, 330, 331, 332, 333, 334, 633, 634, 635, 636, 503, 637, 639, 24, 640, 641, 642, 644, 25, 645] (by decide +kernel)
set_option maxRecDepth 20000 in
theorem wl_wsL_law_r15 : ∀ w ∈ wsL_law_r15, w ∈ lw_tbl := mem_r wsL_law_r15 [500, 501, 502, 646, 647, 648, 649, 651, 26, 652, 653, 655, 27, 656, 657, 658, 659, 660, 662, 28, 663, 664, 665, 666] (by decide +kernel)
set_option maxRecDepth 20000 in
theorem wl_wsL_law_r16 : ∀ w ∈ wsL_law_r16, w ∈ lw_tbl := mem_r wsL_law_r16 [335, 336, 337, 338, 339, 340, 341, 667, 668, 669, 670, 342, 343, 344, 345, 346, 671, 672, 673, 674, 347, 348, 349, 350] (by decide +kernel)
set_option maxRecDepth 20000 in
theorem wl_wsL_law_r17 : ∀ w ∈ wsL_law_r17, w ∈ lw_tbl := mem_r wsL_law_r17 [133, 135, 351, 352, 353, 354, 355, 78, 71, 356, 357, 359, 4, 360, 365, 366, 367, 361, 362, 363, 364, 368, 369, 675] (by decide +kernel)
set_option maxRecDepth 20000 in
theorem wl_wsL_law_r18 : ∀ w ∈ wsL_law_r18, w ∈ lw_tbl := mem_r wsL_law_r18 [676, 677, 678, 370, 371, 372, 373, 129, 131, 72, 679, 680, 681, 682, 683, 685, 29, 686, 374, 375, 376, 377, 378, 687] (by decide +kernel)
end
section
set_option maxRecDepth 20000 in
theorem wl_wsL_law_r19 : ∀ w ∈ wsL_law_r19, w ∈ lw_tbl := mem_r wsL_law_r19 [688, 689, 690, 691, 693, 30, 694, 379, 380, 381, 382, 695, 696, 697, 698, 699, 701, 31, 702, 383, 384, 385, 386, 387] (by decide +kernel)
set_option maxRecDepth 20000 in
theorem wl_wsL_law_r20 : ∀ w ∈ wsL_law_r20, w ∈ lw_tbl := mem_r wsL_law_r20 [388, 389, 390, 391, 392, 393, 394, 395, 703, 704, 705, 706, 707, 709, 32, 710, 396, 397, 398, 399, 400, 401, 402, 403] (by decide +kernel)
set_option maxRecDepth 20000 in
theorem wl_wsL_law_r21 : ∀ w ∈ wsL_law_r21, w ∈ lw_tbl := mem_r wsL_law_r21 [404, 405, 711, 712, 713, 714, 715, 716, 717, 718, 719, 720, 406, 407, 408, 409, 721, 722, 723, 724, 410, 411, 412, 413] (by decide +kernel)
set_option maxRecDepth 20000 in
theorem wl_wsL_law_r22 : ∀ w ∈ wsL_law_r22, w ∈ lw_tbl := mem_r wsL_law_r22 [98, 414, 415, 416, 417, 725, 726, 727, 728, 496, 418, 419, 420, 421, 729, 730, 731, 732, 422, 423, 424, 425, 102, 100] (by decide +kernel)
set_option maxRecDepth 20000 in
theorem wl_wsL_law_r23 : ∀ w ∈ wsL_law_r23, w ∈ lw_tbl := mem_r wsL_law_r23 [426, 427, 428, 429, 430, 432, 5, 433, 434, 436, 6, 437, 438, 440, 7, 441, 442, 443, 444, 445, 447, 8, 448, 449] (by decide +kernel)
set_option maxRecDepth 20000 in
theorem wl_wsL_law_r24 : ∀ w ∈ wsL_law_r24, w ∈ lw_tbl := mem_r wsL_law_r24 [451, 9, 452, 454, 456, 10, 457, 104, 458, 459, 460, 461, 733, 734, 735, 736, 497, 737, 739, 33, 740, 741, 743, 34] (by decide +kernel)
set_option maxRecDepth 20000 in
theorem wl_wsL_law_r25 : ∀ w ∈ wsL_law_r25, w ∈ lw_tbl := mem_r wsL_law_r25 [744, 745, 747, 35, 748, 749, 750, 751, 752, 754, 36, 755, 756, 758, 37, 759, 462, 463, 464, 465, 760, 761, 762, 763] (by decide +kernel)
set_option maxRecDepth 20000 in
theorem wl_wsL_law_r26 : ∀ w ∈ wsL_law_r26, w ∈ lw_tbl := mem_r wsL_law_r26 [466, 467, 468, 469, 764, 765, 766, 767, 768, 770, 38, 771, 470, 471, 472, 473, 474, 475, 476, 477, 478, 479, 480, 481] (by decide +kernel)
set_option maxRecDepth 20000 in
theorem wl_wsL_law_r27 : ∀ w ∈ wsL_law_r27, w ∈ lw_tbl := mem_r wsL_law_r27 [482, 483, 772, 773, 774, 775, 776, 777] (by decide +kernel)
end
section
set_option maxRecDepth 20000 in
theorem wl_wsX40 : ∀ w ∈ wsX40, w ∈ lw_tbl := mem_r wsX40 [166, 168, 170, 172, 174, 176, 178, 180, 182, 184, 186] (by decide +kernel)
set_option maxRecDepth 20000 in
theorem wl_wsX50 : ∀ w ∈ wsX50, w ∈ lw_tbl := mem_r wsX50 [506, 508, 510, 512, 514, 516, 518, 520, 522, 524, 526, 528, 530, 532, 534, 536] (by decide +kernel)
set_option maxRecDepth 20000 in
theorem wl_wsX00 : ∀ w ∈ wsX00, w ∈ lw_tbl := mem_r wsX00 [80, 82, 84, 86] (by decide +kernel)
set_option maxRecDepth 20000 in
theorem wl_wsX30 : ∀ w ∈ wsX30, w ∈ lw_tbl := mem_r wsX30 [107, 109, 111, 113, 115, 117] (by decide +kernel)
set_option maxRecDepth 20000 in
theorem wl_wsX20 : ∀ w ∈ wsX20, w ∈ lw_tbl := mem_r wsX20 [136, 138, 140, 142] (by decide +kernel)
set_option maxRecDepth 20000 in
theorem wl_wsX10 : ∀ w ∈ wsX10, w ∈ lw_tbl := mem_r wsX10 [152] (by decide +kernel)
theorem wl_app {a b : List Cond} (ha : ∀ w ∈ a, w ∈ lw_tbl) (hb : ∀ w ∈ b, w ∈ lw_tbl) : ∀ w ∈ a ++ b, w ∈ lw_tbl := fun w h => (List.mem_append.mp h).elim (ha w) (hb w)
theorem wsL_law_in : ∀ w ∈ wsL_law, w ∈ lw_tbl := wl_app (wl_app (wl_app (wl_app (wl_app (wl_app (wl_app (wl_app wl_wsL_law_r1 (wl_app wl_wsL_law_r2 (wl_app wl_wsL_law_r3 (wl_app wl_wsL_law_r4 (wl_app wl_wsL_law_r5 (wl_app wl_wsL_law_r6 (wl_app wl_wsL_law_r7 (wl_app wl_wsL_law_r8 (wl_app wl_wsL_law_r9 (wl_app wl_wsL_law_r10 (wl_app wl_wsL_law_r11 (wl_app wl_wsL_law_r12 (wl_app wl_wsL_law_r13 (wl_app wl_wsL_law_r14 (wl_app wl_wsL_law_r15 (wl_app wl_wsL_law_r16 (wl_app wl_wsL_law_r17 (wl_app wl_wsL_law_r18 (wl_app wl_wsL_law_r19 (wl_app wl_wsL_law_r20 (wl_app wl_wsL_law_r21 (wl_app wl_wsL_law_r22 (wl_app wl_wsL_law_r23 (wl_app wl_wsL_law_r24 (wl_app wl_wsL_law_r25 (wl_app wl_wsL_law_r26 (wl_wsL_law_r27))))))))))))))))))))))))))) wl_wsX40) wl_wsX50) wl_wsX00) wl_wsX30) wl_wsX20) wl_wsX10) (fun _ h => absurd h List.not_mem_nil)
end
section
theorem inlX0 : ∀ w ∈ wsX00, w ∈ wsL_law := fun _ h => List.mem_append_left _ (List.mem_append_left _ (List.mem_append_left _ (List.mem_append_left _ (List.mem_append_right _ h))))
theorem inX0 : ∀ w ∈ wsX00, w ∈ lw_tbl := fun w h => wsL_law_in w (inlX0 w h)
theorem inlX1 : ∀ w ∈ wsX10, w ∈ wsL_law := fun _ h => List.mem_append_left _ (List.mem_append_right _ h)
theorem inX1 : ∀ w ∈ wsX10, w ∈ lw_tbl := fun w h => wsL_law_in w (inlX1 w h)
theorem inlX2 : ∀ w ∈ wsX20, w ∈ wsL_law := fun _ h => List.mem_append_left _ (List.mem_append_left _ (List.mem_append_right _ h))
theorem inX2 : ∀ w ∈ wsX20, w ∈ lw_tbl := fun w h => wsL_law_in w (inlX2 w h)
theorem inlX3 : ∀ w ∈ wsX30, w ∈ wsL_law := fun _ h => List.mem_append_left _ (List.mem_append_left _ (List.mem_append_left _ (List.mem_append_right _ h)))
theorem inX3 : ∀ w ∈ wsX30, w ∈ lw_tbl := fun w h => wsL_law_in w (inlX3 w h)
theorem inlX4 : ∀ w ∈ wsX40, w ∈ wsL_law := fun _ h => List.mem_append_left _ (List.mem_append_left _ (List.mem_append_left _ (List.mem_append_left _ (List.mem_append_left _ (List.mem_append_left _ (List.mem_append_right _ h))))))
theorem inX4 : ∀ w ∈ wsX40, w ∈ lw_tbl := fun w h => wsL_law_in w (inlX4 w h)
theorem inlX5 : ∀ w ∈ wsX50, w ∈ wsL_law := fun _ h => List.mem_append_left _ (List.mem_append_left _ (List.mem_append_left _ (List.mem_append_left _ (List.mem_append_left _ (List.mem_append_right _ h)))))
theorem inX5 : ∀ w ∈ wsX50, w ∈ lw_tbl := fun w h => wsL_law_in w (inlX5 w h)
theorem inJ6 : ∀ w ∈ wsJ60, w ∈ lw_tbl := by decide +kernel
theorem inJ9 : ∀ w ∈ wsJ90, w ∈ lw_tbl := by decide +kernel
theorem inJ10 : ∀ w ∈ wsJ100, w ∈ lw_tbl := by decide +kernel
theorem inJ7 : ∀ w ∈ wsJ70, w ∈ lw_tbl := by decide +kernel
theorem dX0_init_0 : decode cX0_init 0 = .ok (.aload_n 0, 1) := by decide +kernel
theorem dX0_init_1 : decode cX0_init 1 = .ok (.invokespecial 3, 3) := by decide +kernel
theorem dX0_init_4 : decode cX0_init 4 = .ok (.aload_n 0, 1) := by decide +kernel
theorem dX0_init_5 : decode cX0_init 5 = .ok (.iconst 0, 1) := by decide +kernel
theorem dX0_init_6 : decode cX0_init 6 = .ok (.putfield 9, 3) := by decide +kernel
theorem dX0_init_9 : decode cX0_init 9 = .ok (.aload_n 0, 1) := by decide +kernel
theorem dX0_init_10 : decode cX0_init 10 = .ok (.iconst 0, 1) := by decide +kernel
theorem dX0_init_11 : decode cX0_init 11 = .ok (.putfield 15, 3) := by decide +kernel
theorem dX0_init_14 : decode cX0_init 14 = .ok (.aload_n 0, 1) := by decide +kernel
theorem dX0_init_15 : decode cX0_init 15 = .ok (.bipush 50, 2) := by decide +kernel
theorem dX0_init_17 : decode cX0_init 17 = .ok (.newarray .int, 2) := by decide +kernel
theorem dX0_init_19 : decode cX0_init 19 = .ok (.putfield 18, 3) := by decide +kernel
theorem dX0_init_22 : decode cX0_init 22 = .ok (.aload_n 0, 1) := by decide +kernel
theorem dX0_init_23 : decode cX0_init 23 = .ok (.bipush 6, 2) := by decide +kernel
theorem dX0_init_25 : decode cX0_init 25 = .ok (.newarray .int, 2) := by decide +kernel
theorem dX0_init_27 : decode cX0_init 27 = .ok (.putfield 22, 3) := by decide +kernel
theorem dX0_init_30 : decode cX0_init 30 = .ok (.getstatic 25, 3) := by decide +kernel
theorem dX0_init_33 : decode cX0_init 33 = .ok (.iconst 0, 1) := by decide +kernel
theorem dX0_init_34 : decode cX0_init 34 = .ok (.aload_n 0, 1) := by decide +kernel
theorem dX0_init_35 : decode cX0_init 35 = .ok (.getfield 22, 3) := by decide +kernel
theorem dX0_init_38 : decode cX0_init 38 = .ok (.iconst 0, 1) := by decide +kernel
theorem dX0_init_39 : decode cX0_init 39 = .ok (.bipush 6, 2) := by decide +kernel
theorem dX0_init_41 : decode cX0_init 41 = .ok (.invokestatic 28, 3) := by decide +kernel
theorem dX0_init_44 : decode cX0_init 44 = .ok (.return_, 1) := by decide +kernel
theorem dX0_copyFrom_0 : decode cX0_copyFrom 0 = .ok (.aload_n 0, 1) := by decide +kernel
theorem dX0_copyFrom_1 : decode cX0_copyFrom 1 = .ok (.aload_n 1, 1) := by decide +kernel
theorem dX0_copyFrom_2 : decode cX0_copyFrom 2 = .ok (.getfield 9, 3) := by decide +kernel
theorem dX0_copyFrom_5 : decode cX0_copyFrom 5 = .ok (.putfield 9, 3) := by decide +kernel
theorem dX0_copyFrom_8 : decode cX0_copyFrom 8 = .ok (.aload_n 0, 1) := by decide +kernel
theorem dX0_copyFrom_9 : decode cX0_copyFrom 9 = .ok (.aload_n 1, 1) := by decide +kernel
theorem dX0_copyFrom_10 : decode cX0_copyFrom 10 = .ok (.getfield 15, 3) := by decide +kernel
theorem dX0_copyFrom_13 : decode cX0_copyFrom 13 = .ok (.putfield 15, 3) := by decide +kernel
theorem dX0_copyFrom_16 : decode cX0_copyFrom 16 = .ok (.aload_n 1, 1) := by decide +kernel
theorem dX0_copyFrom_17 : decode cX0_copyFrom 17 = .ok (.getfield 18, 3) := by decide +kernel
theorem dX0_copyFrom_20 : decode cX0_copyFrom 20 = .ok (.iconst 0, 1) := by decide +kernel
theorem dX0_copyFrom_21 : decode cX0_copyFrom 21 = .ok (.aload_n 0, 1) := by decide +kernel
theorem dX0_copyFrom_22 : decode cX0_copyFrom 22 = .ok (.getfield 18, 3) := by decide +kernel
theorem dX0_copyFrom_25 : decode cX0_copyFrom 25 = .ok (.iconst 0, 1) := by decide +kernel
theorem dX0_copyFrom_26 : decode cX0_copyFrom 26 = .ok (.bipush 50, 2) := by decide +kernel
theorem dX0_copyFrom_28 : decode cX0_copyFrom 28 = .ok (.invokestatic 28, 3) := by decide +kernel
theorem dX0_copyFrom_31 : decode cX0_copyFrom 31 = .ok (.aload_n 1, 1) := by decide +kernel
theorem dX0_copyFrom_32 : decode cX0_copyFrom 32 = .ok (.getfield 22, 3) := by decide +kernel
theorem dX0_copyFrom_35 : decode cX0_copyFrom 35 = .ok (.iconst 0, 1) := by decide +kernel
theorem dX0_copyFrom_36 : decode cX0_copyFrom 36 = .ok (.aload_n 0, 1) := by decide +kernel
theorem dX0_copyFrom_37 : decode cX0_copyFrom 37 = .ok (.getfield 22, 3) := by decide +kernel
theorem dX0_copyFrom_40 : decode cX0_copyFrom 40 = .ok (.iconst 0, 1) := by decide +kernel
theorem dX0_copyFrom_41 : decode cX0_copyFrom 41 = .ok (.bipush 6, 2) := by decide +kernel
theorem dX0_copyFrom_43 : decode cX0_copyFrom 43 = .ok (.invokestatic 28, 3) := by decide +kernel
theorem dX0_copyFrom_46 : decode cX0_copyFrom 46 = .ok (.return_, 1) := by decide +kernel
set_option maxRecDepth 20000 in
theorem ggX0_hasSpan_X4_within : GoodIn wsX0_hasSpan wsX4_within := goodIn_r _ [4] (by decide +kernel) (by decide +kernel)
set_option maxRecDepth 20000 in
theorem gX0_hasSpan_X4_within_n34 : GoodIn wsX0_hasSpan (wsX4_within) := ggX0_hasSpan_X4_within
theorem dX0_hasSpan_0 : decode cX0_hasSpan 0 = .ok (.iload_n 1, 1) := by decide +kernel
theorem dX0_hasSpan_1 : decode cX0_hasSpan 1 = .ok (.iconst 0, 1) := by decide +kernel
theorem dX0_hasSpan_2 : decode cX0_hasSpan 2 = .ok (.aload_n 0, 1) := by decide +kernel
theorem dX0_hasSpan_3 : decode cX0_hasSpan 3 = .ok (.getfield 9, 3) := by decide +kernel
theorem dX0_hasSpan_6 : decode cX0_hasSpan 6 = .ok (.iconst 1, 1) := by decide +kernel
theorem dX0_hasSpan_7 : decode cX0_hasSpan 7 = .ok (.isub, 1) := by decide +kernel
theorem dX0_hasSpan_8 : decode cX0_hasSpan 8 = .ok (.invokestatic 34, 3) := by decide +kernel
theorem dX0_hasSpan_11 : decode cX0_hasSpan 11 = .ok (.ireturn, 1) := by decide +kernel
set_option maxRecDepth 20000 in
theorem ggX0_hasNode_X4_within : GoodIn wsX0_hasNode wsX4_within := goodIn_r _ [4] (by decide +kernel) (by decide +kernel)
set_option maxRecDepth 20000 in
theorem gX0_hasNode_X4_within_n34 : GoodIn wsX0_hasNode (wsX4_within) := ggX0_hasNode_X4_within
theorem dX0_hasNode_0 : decode cX0_hasNode 0 = .ok (.iload_n 1, 1) := by decide +kernel
theorem dX0_hasNode_1 : decode cX0_hasNode 1 = .ok (.iconst 0, 1) := by decide +kernel
theorem dX0_hasNode_2 : decode cX0_hasNode 2 = .ok (.aload_n 0, 1) := by decide +kernel
theorem dX0_hasNode_3 : decode cX0_hasNode 3 = .ok (.getfield 9, 3) := by decide +kernel
theorem dX0_hasNode_6 : decode cX0_hasNode 6 = .ok (.invokestatic 34, 3) := by decide +kernel
theorem dX0_hasNode_9 : decode cX0_hasNode 9 = .ok (.ireturn, 1) := by decide +kernel
theorem dX0_hasPump_0 : decode cX0_hasPump 0 = .ok (.aload_n 0, 1) := by decide +kernel
theorem dX0_hasPump_1 : decode cX0_hasPump 1 = .ok (.getfield 15, 3) := by decide +kernel
theorem dX0_hasPump_4 : decode cX0_hasPump 4 = .ok (.iconst 1, 1) := by decide +kernel
theorem dX0_hasPump_5 : decode cX0_hasPump 5 = .ok (.iload_n 1, 1) := by decide +kernel
theorem dX0_hasPump_6 : decode cX0_hasPump 6 = .ok (.ishl, 1) := by decide +kernel
theorem dX0_hasPump_7 : decode cX0_hasPump 7 = .ok (.iand, 1) := by decide +kernel
theorem dX0_hasPump_8 : decode cX0_hasPump 8 = .ok (.ifCond .eq 7, 3) := by decide +kernel
theorem dX0_hasPump_11 : decode cX0_hasPump 11 = .ok (.iconst 1, 1) := by decide +kernel
theorem dX0_hasPump_12 : decode cX0_hasPump 12 = .ok (.goto 4, 3) := by decide +kernel
theorem dX0_hasPump_15 : decode cX0_hasPump 15 = .ok (.iconst 0, 1) := by decide +kernel
theorem dX0_hasPump_16 : decode cX0_hasPump 16 = .ok (.ireturn, 1) := by decide +kernel
theorem dX0_fact_0 : decode cX0_fact 0 = .ok (.aload_n 0, 1) := by decide +kernel
theorem dX0_fact_1 : decode cX0_fact 1 = .ok (.getfield 18, 3) := by decide +kernel
theorem dX0_fact_4 : decode cX0_fact 4 = .ok (.iload_n 1, 1) := by decide +kernel
theorem dX0_fact_5 : decode cX0_fact 5 = .ok (.iconst 5, 1) := by decide +kernel
theorem dX0_fact_6 : decode cX0_fact 6 = .ok (.imul, 1) := by decide +kernel
theorem dX0_fact_7 : decode cX0_fact 7 = .ok (.iload_n 2, 1) := by decide +kernel
theorem dX0_fact_8 : decode cX0_fact 8 = .ok (.iadd, 1) := by decide +kernel
theorem dX0_fact_9 : decode cX0_fact 9 = .ok (.iaload, 1) := by decide +kernel
theorem dX0_fact_10 : decode cX0_fact 10 = .ok (.ireturn, 1) := by decide +kernel
theorem dX0_setFact_0 : decode cX0_setFact 0 = .ok (.aload_n 0, 1) := by decide +kernel
theorem dX0_setFact_1 : decode cX0_setFact 1 = .ok (.getfield 18, 3) := by decide +kernel
theorem dX0_setFact_4 : decode cX0_setFact 4 = .ok (.iload_n 1, 1) := by decide +kernel
theorem dX0_setFact_5 : decode cX0_setFact 5 = .ok (.iconst 5, 1) := by decide +kernel
theorem dX0_setFact_6 : decode cX0_setFact 6 = .ok (.imul, 1) := by decide +kernel
theorem dX0_setFact_7 : decode cX0_setFact 7 = .ok (.iload_n 2, 1) := by decide +kernel
theorem dX0_setFact_8 : decode cX0_setFact 8 = .ok (.iadd, 1) := by decide +kernel
theorem dX0_setFact_9 : decode cX0_setFact 9 = .ok (.iload_n 3, 1) := by decide +kernel
theorem dX0_setFact_10 : decode cX0_setFact 10 = .ok (.iastore, 1) := by decide +kernel
theorem dX0_setFact_11 : decode cX0_setFact 11 = .ok (.return_, 1) := by decide +kernel
set_option maxRecDepth 20000 in
theorem ggX0_addSpan_X4_within : GoodIn wsX0_addSpan wsX4_within := goodIn_r _ [6] (by decide +kernel) (by decide +kernel)
set_option maxRecDepth 20000 in
theorem gX0_addSpan_X4_within_n34 : GoodIn wsX0_addSpan (wsX4_within) := ggX0_addSpan_X4_within
set_option maxRecDepth 20000 in
theorem ggX0_addSpan_X0_setFact : GoodIn wsX0_addSpan wsX0_setFact := goodIn_r _ [11, 12, 13, 14, 15, 16] (by decide +kernel) (by decide +kernel)
set_option maxRecDepth 20000 in
theorem gX0_addSpan_X0_setFact : GoodIn wsX0_addSpan (wsV RX0 40 RX0 yX0_setFact wsX0_setFact) := goodIn_app (goodIn_of _ (by decide +kernel)) ggX0_addSpan_X0_setFact
theorem dX0_addSpan_0 : decode cX0_addSpan 0 = .ok (.iload_n 1, 1) := by decide +kernel
theorem dX0_addSpan_1 : decode cX0_addSpan 1 = .ok (.iconst 1, 1) := by decide +kernel
theorem dX0_addSpan_2 : decode cX0_addSpan 2 = .ok (.bipush 30, 2) := by decide +kernel
theorem dX0_addSpan_4 : decode cX0_addSpan 4 = .ok (.invokestatic 34, 3) := by decide +kernel
theorem dX0_addSpan_7 : decode cX0_addSpan 7 = .ok (.ifCond .eq 33, 3) := by decide +kernel
theorem dX0_addSpan_10 : decode cX0_addSpan 10 = .ok (.iload_n 2, 1) := by decide +kernel
theorem dX0_addSpan_11 : decode cX0_addSpan 11 = .ok (.iconst 0, 1) := by decide +kernel
theorem dX0_addSpan_12 : decode cX0_addSpan 12 = .ok (.iconst 3, 1) := by decide +kernel
theorem dX0_addSpan_13 : decode cX0_addSpan 13 = .ok (.invokestatic 34, 3) := by decide +kernel
theorem dX0_addSpan_16 : decode cX0_addSpan 16 = .ok (.ifCond .eq 24, 3) := by decide +kernel
theorem dX0_addSpan_19 : decode cX0_addSpan 19 = .ok (.iload_n 3, 1) := by decide +kernel
theorem dX0_addSpan_20 : decode cX0_addSpan 20 = .ok (.bipush (-50), 2) := by decide +kernel
theorem dX0_addSpan_22 : decode cX0_addSpan 22 = .ok (.bipush 50, 2) := by decide +kernel
theorem dX0_addSpan_24 : decode cX0_addSpan 24 = .ok (.invokestatic 34, 3) := by decide +kernel
theorem dX0_addSpan_27 : decode cX0_addSpan 27 = .ok (.ifCond .eq 13, 3) := by decide +kernel
theorem dX0_addSpan_30 : decode cX0_addSpan 30 = .ok (.iload 4, 2) := by decide +kernel
theorem dX0_addSpan_32 : decode cX0_addSpan 32 = .ok (.iconst 0, 1) := by decide +kernel
theorem dX0_addSpan_33 : decode cX0_addSpan 33 = .ok (.iconst 1, 1) := by decide +kernel
theorem dX0_addSpan_34 : decode cX0_addSpan 34 = .ok (.invokestatic 34, 3) := by decide +kernel
theorem dX0_addSpan_37 : decode cX0_addSpan 37 = .ok (.ifCond .ne 6, 3) := by decide +kernel
theorem dX0_addSpan_40 : decode cX0_addSpan 40 = .ok (.ldc 38, 2) := by decide +kernel
theorem dX0_addSpan_42 : decode cX0_addSpan 42 = .ok (.ireturn, 1) := by decide +kernel
theorem dX0_addSpan_43 : decode cX0_addSpan 43 = .ok (.aload_n 0, 1) := by decide +kernel
theorem dX0_addSpan_44 : decode cX0_addSpan 44 = .ok (.getfield 9, 3) := by decide +kernel
theorem dX0_addSpan_47 : decode cX0_addSpan 47 = .ok (.bipush 10, 2) := by decide +kernel
theorem dX0_addSpan_49 : decode cX0_addSpan 49 = .ok (.if_icmp .lt 6, 3) := by decide +kernel
theorem dX0_addSpan_52 : decode cX0_addSpan 52 = .ok (.ldc 39, 2) := by decide +kernel
theorem dX0_addSpan_54 : decode cX0_addSpan 54 = .ok (.ireturn, 1) := by decide +kernel
theorem dX0_addSpan_55 : decode cX0_addSpan 55 = .ok (.aload_n 0, 1) := by decide +kernel
theorem dX0_addSpan_56 : decode cX0_addSpan 56 = .ok (.aload_n 0, 1) := by decide +kernel
theorem dX0_addSpan_57 : decode cX0_addSpan 57 = .ok (.getfield 9, 3) := by decide +kernel
theorem dX0_addSpan_60 : decode cX0_addSpan 60 = .ok (.iconst 0, 1) := by decide +kernel
theorem dX0_addSpan_61 : decode cX0_addSpan 61 = .ok (.iload_n 1, 1) := by decide +kernel
theorem dX0_addSpan_62 : decode cX0_addSpan 62 = .ok (.invokevirtual 40, 3) := by decide +kernel
theorem dX0_addSpan_65 : decode cX0_addSpan 65 = .ok (.aload_n 0, 1) := by decide +kernel
theorem dX0_addSpan_66 : decode cX0_addSpan 66 = .ok (.aload_n 0, 1) := by decide +kernel
theorem dX0_addSpan_67 : decode cX0_addSpan 67 = .ok (.getfield 9, 3) := by decide +kernel
theorem dX0_addSpan_70 : decode cX0_addSpan 70 = .ok (.iconst 1, 1) := by decide +kernel
theorem dX0_addSpan_71 : decode cX0_addSpan 71 = .ok (.iload_n 2, 1) := by decide +kernel
theorem dX0_addSpan_72 : decode cX0_addSpan 72 = .ok (.invokevirtual 40, 3) := by decide +kernel
theorem dX0_addSpan_75 : decode cX0_addSpan 75 = .ok (.aload_n 0, 1) := by decide +kernel
theorem dX0_addSpan_76 : decode cX0_addSpan 76 = .ok (.aload_n 0, 1) := by decide +kernel
theorem dX0_addSpan_77 : decode cX0_addSpan 77 = .ok (.getfield 9, 3) := by decide +kernel
theorem dX0_addSpan_80 : decode cX0_addSpan 80 = .ok (.iconst 2, 1) := by decide +kernel
theorem dX0_addSpan_81 : decode cX0_addSpan 81 = .ok (.iload_n 3, 1) := by decide +kernel
theorem dX0_addSpan_82 : decode cX0_addSpan 82 = .ok (.invokevirtual 40, 3) := by decide +kernel
theorem dX0_addSpan_85 : decode cX0_addSpan 85 = .ok (.aload_n 0, 1) := by decide +kernel
theorem dX0_addSpan_86 : decode cX0_addSpan 86 = .ok (.aload_n 0, 1) := by decide +kernel
theorem dX0_addSpan_87 : decode cX0_addSpan 87 = .ok (.getfield 9, 3) := by decide +kernel
theorem dX0_addSpan_90 : decode cX0_addSpan 90 = .ok (.iconst 3, 1) := by decide +kernel
theorem dX0_addSpan_91 : decode cX0_addSpan 91 = .ok (.iload 4, 2) := by decide +kernel
theorem dX0_addSpan_93 : decode cX0_addSpan 93 = .ok (.invokevirtual 40, 3) := by decide +kernel
theorem dX0_addSpan_96 : decode cX0_addSpan 96 = .ok (.aload_n 0, 1) := by decide +kernel
theorem dX0_addSpan_97 : decode cX0_addSpan 97 = .ok (.aload_n 0, 1) := by decide +kernel
theorem dX0_addSpan_98 : decode cX0_addSpan 98 = .ok (.getfield 9, 3) := by decide +kernel
theorem dX0_addSpan_101 : decode cX0_addSpan 101 = .ok (.iconst 4, 1) := by decide +kernel
theorem dX0_addSpan_102 : decode cX0_addSpan 102 = .ok (.iconst 0, 1) := by decide +kernel
theorem dX0_addSpan_103 : decode cX0_addSpan 103 = .ok (.invokevirtual 40, 3) := by decide +kernel
theorem dX0_addSpan_106 : decode cX0_addSpan 106 = .ok (.aload_n 0, 1) := by decide +kernel
theorem dX0_addSpan_107 : decode cX0_addSpan 107 = .ok (.dup, 1) := by decide +kernel
theorem dX0_addSpan_108 : decode cX0_addSpan 108 = .ok (.getfield 9, 3) := by decide +kernel
theorem dX0_addSpan_111 : decode cX0_addSpan 111 = .ok (.iconst 1, 1) := by decide +kernel
theorem dX0_addSpan_112 : decode cX0_addSpan 112 = .ok (.iadd, 1) := by decide +kernel
theorem dX0_addSpan_113 : decode cX0_addSpan 113 = .ok (.putfield 9, 3) := by decide +kernel
theorem dX0_addSpan_116 : decode cX0_addSpan 116 = .ok (.aload_n 0, 1) := by decide +kernel
theorem dX0_addSpan_117 : decode cX0_addSpan 117 = .ok (.getfield 9, 3) := by decide +kernel
theorem dX0_addSpan_120 : decode cX0_addSpan 120 = .ok (.iconst 1, 1) := by decide +kernel
theorem dX0_addSpan_121 : decode cX0_addSpan 121 = .ok (.isub, 1) := by decide +kernel
theorem dX0_addSpan_122 : decode cX0_addSpan 122 = .ok (.ireturn, 1) := by decide +kernel
theorem dX0_cutLast_0 : decode cX0_cutLast 0 = .ok (.aload_n 0, 1) := by decide +kernel
theorem dX0_cutLast_1 : decode cX0_cutLast 1 = .ok (.getfield 9, 3) := by decide +kernel
theorem dX0_cutLast_4 : decode cX0_cutLast 4 = .ok (.ifCond .ne 6, 3) := by decide +kernel
theorem dX0_cutLast_7 : decode cX0_cutLast 7 = .ok (.ldc 44, 2) := by decide +kernel
theorem dX0_cutLast_9 : decode cX0_cutLast 9 = .ok (.ireturn, 1) := by decide +kernel
theorem dX0_cutLast_10 : decode cX0_cutLast 10 = .ok (.aload_n 0, 1) := by decide +kernel
theorem dX0_cutLast_11 : decode cX0_cutLast 11 = .ok (.dup, 1) := by decide +kernel
theorem dX0_cutLast_12 : decode cX0_cutLast 12 = .ok (.getfield 15, 3) := by decide +kernel
theorem dX0_cutLast_15 : decode cX0_cutLast 15 = .ok (.iconst 1, 1) := by decide +kernel
theorem dX0_cutLast_16 : decode cX0_cutLast 16 = .ok (.aload_n 0, 1) := by decide +kernel
theorem dX0_cutLast_17 : decode cX0_cutLast 17 = .ok (.getfield 9, 3) := by decide +kernel
theorem dX0_cutLast_20 : decode cX0_cutLast 20 = .ok (.ishl, 1) := by decide +kernel
theorem dX0_cutLast_21 : decode cX0_cutLast 21 = .ok (.iconst (-1), 1) := by decide +kernel
theorem dX0_cutLast_22 : decode cX0_cutLast 22 = .ok (.ixor, 1) := by decide +kernel
theorem dX0_cutLast_23 : decode cX0_cutLast 23 = .ok (.iand, 1) := by decide +kernel
theorem dX0_cutLast_24 : decode cX0_cutLast 24 = .ok (.putfield 15, 3) := by decide +kernel
theorem dX0_cutLast_27 : decode cX0_cutLast 27 = .ok (.aload_n 0, 1) := by decide +kernel
theorem dX0_cutLast_28 : decode cX0_cutLast 28 = .ok (.dup, 1) := by decide +kernel
theorem dX0_cutLast_29 : decode cX0_cutLast 29 = .ok (.getfield 9, 3) := by decide +kernel
theorem dX0_cutLast_32 : decode cX0_cutLast 32 = .ok (.iconst 1, 1) := by decide +kernel
theorem dX0_cutLast_33 : decode cX0_cutLast 33 = .ok (.isub, 1) := by decide +kernel
theorem dX0_cutLast_34 : decode cX0_cutLast 34 = .ok (.putfield 9, 3) := by decide +kernel
theorem dX0_cutLast_37 : decode cX0_cutLast 37 = .ok (.aload_n 0, 1) := by decide +kernel
theorem dX0_cutLast_38 : decode cX0_cutLast 38 = .ok (.getfield 9, 3) := by decide +kernel
theorem dX0_cutLast_41 : decode cX0_cutLast 41 = .ok (.ireturn, 1) := by decide +kernel
set_option maxRecDepth 20000 in
theorem ggX0_changeSetting_X4_within : GoodIn wsX0_changeSetting wsX4_within := goodIn_r _ [5] (by decide +kernel) (by decide +kernel)
set_option maxRecDepth 20000 in
theorem gX0_changeSetting_X4_within_n34 : GoodIn wsX0_changeSetting (wsX4_within) := ggX0_changeSetting_X4_within
theorem dX0_changeSetting_0 : decode cX0_changeSetting 0 = .ok (.iload_n 1, 1) := by decide +kernel
theorem dX0_changeSetting_1 : decode cX0_changeSetting 1 = .ok (.iconst 0, 1) := by decide +kernel
theorem dX0_changeSetting_2 : decode cX0_changeSetting 2 = .ok (.iconst 5, 1) := by decide +kernel
theorem dX0_changeSetting_3 : decode cX0_changeSetting 3 = .ok (.invokestatic 34, 3) := by decide +kernel
theorem dX0_changeSetting_6 : decode cX0_changeSetting 6 = .ok (.ifCond .eq 20, 3) := by decide +kernel
theorem dX0_changeSetting_9 : decode cX0_changeSetting 9 = .ok (.iload_n 2, 1) := by decide +kernel
theorem dX0_changeSetting_10 : decode cX0_changeSetting 10 = .ok (.getstatic 45, 3) := by decide +kernel
theorem dX0_changeSetting_13 : decode cX0_changeSetting 13 = .ok (.iload_n 1, 1) := by decide +kernel
theorem dX0_changeSetting_14 : decode cX0_changeSetting 14 = .ok (.iaload, 1) := by decide +kernel
theorem dX0_changeSetting_15 : decode cX0_changeSetting 15 = .ok (.getstatic 48, 3) := by decide +kernel
theorem dX0_changeSetting_18 : decode cX0_changeSetting 18 = .ok (.iload_n 1, 1) := by decide +kernel
theorem dX0_changeSetting_19 : decode cX0_changeSetting 19 = .ok (.iaload, 1) := by decide +kernel
theorem dX0_changeSetting_20 : decode cX0_changeSetting 20 = .ok (.invokestatic 34, 3) := by decide +kernel
theorem dX0_changeSetting_23 : decode cX0_changeSetting 23 = .ok (.ifCond .ne 6, 3) := by decide +kernel
theorem dX0_changeSetting_26 : decode cX0_changeSetting 26 = .ok (.ldc 38, 2) := by decide +kernel
theorem dX0_changeSetting_28 : decode cX0_changeSetting 28 = .ok (.ireturn, 1) := by decide +kernel
theorem dX0_changeSetting_29 : decode cX0_changeSetting 29 = .ok (.aload_n 0, 1) := by decide +kernel
theorem dX0_changeSetting_30 : decode cX0_changeSetting 30 = .ok (.getfield 22, 3) := by decide +kernel
theorem dX0_changeSetting_33 : decode cX0_changeSetting 33 = .ok (.iload_n 1, 1) := by decide +kernel
theorem dX0_changeSetting_34 : decode cX0_changeSetting 34 = .ok (.iaload, 1) := by decide +kernel
theorem dX0_changeSetting_35 : decode cX0_changeSetting 35 = .ok (.istore_n 3, 1) := by decide +kernel
theorem dX0_changeSetting_36 : decode cX0_changeSetting 36 = .ok (.aload_n 0, 1) := by decide +kernel
theorem dX0_changeSetting_37 : decode cX0_changeSetting 37 = .ok (.getfield 22, 3) := by decide +kernel
theorem dX0_changeSetting_40 : decode cX0_changeSetting 40 = .ok (.iload_n 1, 1) := by decide +kernel
theorem dX0_changeSetting_41 : decode cX0_changeSetting 41 = .ok (.iload_n 2, 1) := by decide +kernel
theorem dX0_changeSetting_42 : decode cX0_changeSetting 42 = .ok (.iastore, 1) := by decide +kernel
theorem dX0_changeSetting_43 : decode cX0_changeSetting 43 = .ok (.iload_n 3, 1) := by decide +kernel
theorem dX0_changeSetting_44 : decode cX0_changeSetting 44 = .ok (.ireturn, 1) := by decide +kernel
set_option maxRecDepth 20000 in
theorem ggX0_turnPump_X0_hasNode : GoodIn wsX0_turnPump wsX0_hasNode := goodIn_r _ [7, 8, 9, 10, 11, 19, 20, 21, 22] (by decide +kernel) (by decide +kernel)
set_option maxRecDepth 20000 in
theorem gX0_turnPump_X0_hasNode : GoodIn wsX0_turnPump (wsV RX0 51 RX0 yX0_hasNode wsX0_hasNode) := goodIn_app (goodIn_of _ (by decide +kernel)) ggX0_turnPump_X0_hasNode
set_option maxRecDepth 20000 in
theorem ggX0_turnPump_J6_bitCount_0f7a4 : GoodIn wsX0_turnPump wsJ6_bitCount_0f7a4 := goodIn_r _ [15, 16, 17, 18] (by decide +kernel) (by decide +kernel)
set_option maxRecDepth 20000 in
theorem gX0_turnPump_J6_bitCount_0f7a4 : GoodIn wsX0_turnPump (va_wsS RX0 55 yJ6_bitCount_0f7a4 wsJ6_bitCount_0f7a4) := goodIn_app (goodIn_of _ (by decide +kernel)) ggX0_turnPump_J6_bitCount_0f7a4
theorem dX0_turnPump_0 : decode cX0_turnPump 0 = .ok (.aload_n 0, 1) := by decide +kernel
theorem dX0_turnPump_1 : decode cX0_turnPump 1 = .ok (.iload_n 1, 1) := by decide +kernel
theorem dX0_turnPump_2 : decode cX0_turnPump 2 = .ok (.invokevirtual 51, 3) := by decide +kernel
theorem dX0_turnPump_5 : decode cX0_turnPump 5 = .ok (.ifCond .ne 6, 3) := by decide +kernel
theorem dX0_turnPump_8 : decode cX0_turnPump 8 = .ok (.ldc 38, 2) := by decide +kernel
theorem dX0_turnPump_10 : decode cX0_turnPump 10 = .ok (.ireturn, 1) := by decide +kernel
theorem dX0_turnPump_11 : decode cX0_turnPump 11 = .ok (.aload_n 0, 1) := by decide +kernel
theorem dX0_turnPump_12 : decode cX0_turnPump 12 = .ok (.dup, 1) := by decide +kernel
theorem dX0_turnPump_13 : decode cX0_turnPump 13 = .ok (.getfield 15, 3) := by decide +kernel
theorem dX0_turnPump_16 : decode cX0_turnPump 16 = .ok (.iconst 1, 1) := by decide +kernel
theorem dX0_turnPump_17 : decode cX0_turnPump 17 = .ok (.iload_n 1, 1) := by decide +kernel
theorem dX0_turnPump_18 : decode cX0_turnPump 18 = .ok (.ishl, 1) := by decide +kernel
theorem dX0_turnPump_19 : decode cX0_turnPump 19 = .ok (.ixor, 1) := by decide +kernel
theorem dX0_turnPump_20 : decode cX0_turnPump 20 = .ok (.putfield 15, 3) := by decide +kernel
theorem dX0_turnPump_23 : decode cX0_turnPump 23 = .ok (.aload_n 0, 1) := by decide +kernel
theorem dX0_turnPump_24 : decode cX0_turnPump 24 = .ok (.getfield 15, 3) := by decide +kernel
theorem dX0_turnPump_27 : decode cX0_turnPump 27 = .ok (.invokestatic 55, 3) := by decide +kernel
theorem dX0_turnPump_30 : decode cX0_turnPump 30 = .ok (.ireturn, 1) := by decide +kernel
set_option maxRecDepth 20000 in
theorem ggX0_burstSpan_X0_hasSpan : GoodIn wsX0_burstSpan wsX0_hasSpan := goodIn_r _ [6, 7, 8, 9, 10, 20, 21, 22, 23] (by decide +kernel) (by decide +kernel)
set_option maxRecDepth 20000 in
theorem gX0_burstSpan_X0_hasSpan : GoodIn wsX0_burstSpan (wsV RX0 61 RX0 yX0_hasSpan wsX0_hasSpan) := goodIn_app (goodIn_of _ (by decide +kernel)) ggX0_burstSpan_X0_hasSpan
set_option maxRecDepth 20000 in
theorem ggX0_burstSpan_X0_fact : GoodIn wsX0_burstSpan wsX0_fact := goodIn_r _ [14, 15, 20, 21, 22, 23] (by decide +kernel) (by decide +kernel)
set_option maxRecDepth 20000 in
theorem gX0_burstSpan_X0_fact : GoodIn wsX0_burstSpan (wsV RX0 64 RX0 yX0_fact wsX0_fact) := goodIn_app (goodIn_of _ (by decide +kernel)) ggX0_burstSpan_X0_fact
set_option maxRecDepth 20000 in
theorem ggX0_burstSpan_X0_setFact : GoodIn wsX0_burstSpan wsX0_setFact := goodIn_r _ [19, 15, 20, 21, 22, 23] (by decide +kernel) (by decide +kernel)
set_option maxRecDepth 20000 in
theorem gX0_burstSpan_X0_setFact : GoodIn wsX0_burstSpan (wsV RX0 40 RX0 yX0_setFact wsX0_setFact) := goodIn_app (goodIn_of _ (by decide +kernel)) ggX0_burstSpan_X0_setFact
theorem dX0_burstSpan_0 : decode cX0_burstSpan 0 = .ok (.aload_n 0, 1) := by decide +kernel
theorem dX0_burstSpan_1 : decode cX0_burstSpan 1 = .ok (.iload_n 1, 1) := by decide +kernel
theorem dX0_burstSpan_2 : decode cX0_burstSpan 2 = .ok (.invokevirtual 61, 3) := by decide +kernel
theorem dX0_burstSpan_5 : decode cX0_burstSpan 5 = .ok (.ifCond .ne 6, 3) := by decide +kernel
theorem dX0_burstSpan_8 : decode cX0_burstSpan 8 = .ok (.ldc 38, 2) := by decide +kernel
theorem dX0_burstSpan_10 : decode cX0_burstSpan 10 = .ok (.ireturn, 1) := by decide +kernel
theorem dX0_burstSpan_11 : decode cX0_burstSpan 11 = .ok (.iconst 1, 1) := by decide +kernel
theorem dX0_burstSpan_12 : decode cX0_burstSpan 12 = .ok (.aload_n 0, 1) := by decide +kernel
theorem dX0_burstSpan_13 : decode cX0_burstSpan 13 = .ok (.iload_n 1, 1) := by decide +kernel
theorem dX0_burstSpan_14 : decode cX0_burstSpan 14 = .ok (.iconst 4, 1) := by decide +kernel
theorem dX0_burstSpan_15 : decode cX0_burstSpan 15 = .ok (.invokevirtual 64, 3) := by decide +kernel
theorem dX0_burstSpan_18 : decode cX0_burstSpan 18 = .ok (.isub, 1) := by decide +kernel
theorem dX0_burstSpan_19 : decode cX0_burstSpan 19 = .ok (.istore_n 2, 1) := by decide +kernel
theorem dX0_burstSpan_20 : decode cX0_burstSpan 20 = .ok (.aload_n 0, 1) := by decide +kernel
theorem dX0_burstSpan_21 : decode cX0_burstSpan 21 = .ok (.iload_n 1, 1) := by decide +kernel
theorem dX0_burstSpan_22 : decode cX0_burstSpan 22 = .ok (.iconst 4, 1) := by decide +kernel
theorem dX0_burstSpan_23 : decode cX0_burstSpan 23 = .ok (.iconst 1, 1) := by decide +kernel
theorem dX0_burstSpan_24 : decode cX0_burstSpan 24 = .ok (.invokevirtual 40, 3) := by decide +kernel
theorem dX0_burstSpan_27 : decode cX0_burstSpan 27 = .ok (.iload_n 2, 1) := by decide +kernel
theorem dX0_burstSpan_28 : decode cX0_burstSpan 28 = .ok (.ireturn, 1) := by decide +kernel
set_option maxRecDepth 20000 in
theorem ggX0_mendSpan_X0_hasSpan : GoodIn wsX0_mendSpan wsX0_hasSpan := goodIn_r _ [8, 9, 10, 11, 12, 26, 27, 28, 29] (by decide +kernel) (by decide +kernel)
set_option maxRecDepth 20000 in
theorem gX0_mendSpan_X0_hasSpan : GoodIn wsX0_mendSpan (wsV RX0 61 RX0 yX0_hasSpan wsX0_hasSpan) := goodIn_app (goodIn_of _ (by decide +kernel)) ggX0_mendSpan_X0_hasSpan
set_option maxRecDepth 20000 in
theorem ggX0_mendSpan_X0_fact : GoodIn wsX0_mendSpan wsX0_fact := goodIn_r _ [16, 17, 26, 27, 28, 29] (by decide +kernel) (by decide +kernel)
set_option maxRecDepth 20000 in
theorem gX0_mendSpan_X0_fact : GoodIn wsX0_mendSpan (wsV RX0 64 RX0 yX0_fact wsX0_fact) := goodIn_app (goodIn_of _ (by decide +kernel)) ggX0_mendSpan_X0_fact
set_option maxRecDepth 20000 in
theorem ggX0_mendSpan_X0_hosesOf : GoodIn wsX0_mendSpan wsX0_hosesOf := goodIn_r _ [21, 13, 14, 15, 7, 16, 17, 26, 27, 28, 29] (by decide +kernel) (by decide +kernel)
set_option maxRecDepth 20000 in
theorem gX0_mendSpan_X0_hosesOf : GoodIn wsX0_mendSpan (wsV RX0 68 RX0 yX0_hosesOf wsX0_hosesOf) := goodIn_app (goodIn_of _ (by decide +kernel)) ggX0_mendSpan_X0_hosesOf
set_option maxRecDepth 20000 in
theorem ggX0_mendSpan_X0_setFact : GoodIn wsX0_mendSpan wsX0_setFact := goodIn_r _ [25, 17, 26, 27, 28, 29] (by decide +kernel) (by decide +kernel)
set_option maxRecDepth 20000 in
theorem gX0_mendSpan_X0_setFact : GoodIn wsX0_mendSpan (wsV RX0 40 RX0 yX0_setFact wsX0_setFact) := goodIn_app (goodIn_of _ (by decide +kernel)) ggX0_mendSpan_X0_setFact
theorem dX0_mendSpan_0 : decode cX0_mendSpan 0 = .ok (.aload_n 0, 1) := by decide +kernel
theorem dX0_mendSpan_1 : decode cX0_mendSpan 1 = .ok (.iload_n 1, 1) := by decide +kernel
theorem dX0_mendSpan_2 : decode cX0_mendSpan 2 = .ok (.invokevirtual 61, 3) := by decide +kernel
theorem dX0_mendSpan_5 : decode cX0_mendSpan 5 = .ok (.ifCond .ne 6, 3) := by decide +kernel
theorem dX0_mendSpan_8 : decode cX0_mendSpan 8 = .ok (.ldc 38, 2) := by decide +kernel
theorem dX0_mendSpan_10 : decode cX0_mendSpan 10 = .ok (.ireturn, 1) := by decide +kernel
theorem dX0_mendSpan_11 : decode cX0_mendSpan 11 = .ok (.aload_n 0, 1) := by decide +kernel
theorem dX0_mendSpan_12 : decode cX0_mendSpan 12 = .ok (.iload_n 1, 1) := by decide +kernel
theorem dX0_mendSpan_13 : decode cX0_mendSpan 13 = .ok (.iconst 4, 1) := by decide +kernel
theorem dX0_mendSpan_14 : decode cX0_mendSpan 14 = .ok (.invokevirtual 64, 3) := by decide +kernel
theorem dX0_mendSpan_17 : decode cX0_mendSpan 17 = .ok (.ifCond .eq 17, 3) := by decide +kernel
theorem dX0_mendSpan_20 : decode cX0_mendSpan 20 = .ok (.aload_n 0, 1) := by decide +kernel
theorem dX0_mendSpan_21 : decode cX0_mendSpan 21 = .ok (.getfield 22, 3) := by decide +kernel
theorem dX0_mendSpan_24 : decode cX0_mendSpan 24 = .ok (.iconst 5, 1) := by decide +kernel
theorem dX0_mendSpan_25 : decode cX0_mendSpan 25 = .ok (.iaload, 1) := by decide +kernel
theorem dX0_mendSpan_26 : decode cX0_mendSpan 26 = .ok (.aload_n 0, 1) := by decide +kernel
theorem dX0_mendSpan_27 : decode cX0_mendSpan 27 = .ok (.iload_n 1, 1) := by decide +kernel
theorem dX0_mendSpan_28 : decode cX0_mendSpan 28 = .ok (.invokevirtual 68, 3) := by decide +kernel
theorem dX0_mendSpan_31 : decode cX0_mendSpan 31 = .ok (.if_icmp .ge 6, 3) := by decide +kernel
theorem dX0_mendSpan_34 : decode cX0_mendSpan 34 = .ok (.ldc 44, 2) := by decide +kernel
theorem dX0_mendSpan_36 : decode cX0_mendSpan 36 = .ok (.ireturn, 1) := by decide +kernel
theorem dX0_mendSpan_37 : decode cX0_mendSpan 37 = .ok (.aload_n 0, 1) := by decide +kernel
theorem dX0_mendSpan_38 : decode cX0_mendSpan 38 = .ok (.iload_n 1, 1) := by decide +kernel
theorem dX0_mendSpan_39 : decode cX0_mendSpan 39 = .ok (.iconst 4, 1) := by decide +kernel
theorem dX0_mendSpan_40 : decode cX0_mendSpan 40 = .ok (.iconst 0, 1) := by decide +kernel
theorem dX0_mendSpan_41 : decode cX0_mendSpan 41 = .ok (.invokevirtual 40, 3) := by decide +kernel
theorem dX0_mendSpan_44 : decode cX0_mendSpan 44 = .ok (.aload_n 0, 1) := by decide +kernel
theorem dX0_mendSpan_45 : decode cX0_mendSpan 45 = .ok (.getfield 22, 3) := by decide +kernel
theorem dX0_mendSpan_48 : decode cX0_mendSpan 48 = .ok (.iconst 5, 1) := by decide +kernel
theorem dX0_mendSpan_49 : decode cX0_mendSpan 49 = .ok (.dup2, 1) := by decide +kernel
theorem dX0_mendSpan_50 : decode cX0_mendSpan 50 = .ok (.iaload, 1) := by decide +kernel
theorem dX0_mendSpan_51 : decode cX0_mendSpan 51 = .ok (.aload_n 0, 1) := by decide +kernel
theorem dX0_mendSpan_52 : decode cX0_mendSpan 52 = .ok (.iload_n 1, 1) := by decide +kernel
theorem dX0_mendSpan_53 : decode cX0_mendSpan 53 = .ok (.invokevirtual 68, 3) := by decide +kernel
theorem dX0_mendSpan_56 : decode cX0_mendSpan 56 = .ok (.isub, 1) := by decide +kernel
theorem dX0_mendSpan_57 : decode cX0_mendSpan 57 = .ok (.iastore, 1) := by decide +kernel
theorem dX0_mendSpan_58 : decode cX0_mendSpan 58 = .ok (.aload_n 0, 1) := by decide +kernel
theorem dX0_mendSpan_59 : decode cX0_mendSpan 59 = .ok (.getfield 22, 3) := by decide +kernel
theorem dX0_mendSpan_62 : decode cX0_mendSpan 62 = .ok (.iconst 5, 1) := by decide +kernel
theorem dX0_mendSpan_63 : decode cX0_mendSpan 63 = .ok (.iaload, 1) := by decide +kernel
theorem dX0_mendSpan_64 : decode cX0_mendSpan 64 = .ok (.ireturn, 1) := by decide +kernel
set_option maxRecDepth 20000 in
theorem ggX0_hosesOf_X0_fact : GoodIn wsX0_hosesOf wsX0_fact := goodIn_r _ [5, 6, 7, 8, 9, 10] (by decide +kernel) (by decide +kernel)
set_option maxRecDepth 20000 in
theorem gX0_hosesOf_X0_fact : GoodIn wsX0_hosesOf (wsV RX0 64 RX0 yX0_fact wsX0_fact) := goodIn_app (goodIn_of _ (by decide +kernel)) ggX0_hosesOf_X0_fact
theorem dX0_hosesOf_0 : decode cX0_hosesOf 0 = .ok (.aload_n 0, 1) := by decide +kernel
theorem dX0_hosesOf_1 : decode cX0_hosesOf 1 = .ok (.iload_n 1, 1) := by decide +kernel
theorem dX0_hosesOf_2 : decode cX0_hosesOf 2 = .ok (.iconst 3, 1) := by decide +kernel
theorem dX0_hosesOf_3 : decode cX0_hosesOf 3 = .ok (.invokevirtual 64, 3) := by decide +kernel
theorem dX0_hosesOf_6 : decode cX0_hosesOf 6 = .ok (.iconst 1, 1) := by decide +kernel
theorem dX0_hosesOf_7 : decode cX0_hosesOf 7 = .ok (.if_icmp .ne 14, 3) := by decide +kernel
theorem dX0_hosesOf_10 : decode cX0_hosesOf 10 = .ok (.iconst 2, 1) := by decide +kernel
theorem dX0_hosesOf_11 : decode cX0_hosesOf 11 = .ok (.aload_n 0, 1) := by decide +kernel
theorem dX0_hosesOf_12 : decode cX0_hosesOf 12 = .ok (.iload_n 1, 1) := by decide +kernel
theorem dX0_hosesOf_13 : decode cX0_hosesOf 13 = .ok (.iconst 0, 1) := by decide +kernel
theorem dX0_hosesOf_14 : decode cX0_hosesOf 14 = .ok (.invokevirtual 64, 3) := by decide +kernel
theorem dX0_hosesOf_17 : decode cX0_hosesOf 17 = .ok (.imul, 1) := by decide +kernel
theorem dX0_hosesOf_18 : decode cX0_hosesOf 18 = .ok (.goto 9, 3) := by decide +kernel
theorem dX0_hosesOf_21 : decode cX0_hosesOf 21 = .ok (.aload_n 0, 1) := by decide +kernel
theorem dX0_hosesOf_22 : decode cX0_hosesOf 22 = .ok (.iload_n 1, 1) := by decide +kernel
theorem dX0_hosesOf_23 : decode cX0_hosesOf 23 = .ok (.iconst 0, 1) := by decide +kernel
theorem dX0_hosesOf_24 : decode cX0_hosesOf 24 = .ok (.invokevirtual 64, 3) := by decide +kernel
theorem dX0_hosesOf_27 : decode cX0_hosesOf 27 = .ok (.ireturn, 1) := by decide +kernel
set_option maxRecDepth 20000 in
theorem ggX0_allLengths_X0_hosesOf : GoodIn wsX0_allLengths wsX0_hosesOf := goodIn_r _ [6, 7, 8, 9, 5, 10, 11, 12, 13, 14, 15] (by decide +kernel) (by decide +kernel)
set_option maxRecDepth 20000 in
theorem gX0_allLengths_X0_hosesOf : GoodIn wsX0_allLengths (wsV RX0 68 RX0 yX0_hosesOf wsX0_hosesOf) := goodIn_app (goodIn_of _ (by decide +kernel)) ggX0_allLengths_X0_hosesOf
theorem dX0_allLengths_0 : decode cX0_allLengths 0 = .ok (.iconst 0, 1) := by decide +kernel
theorem dX0_allLengths_1 : decode cX0_allLengths 1 = .ok (.istore_n 1, 1) := by decide +kernel
theorem dX0_allLengths_2 : decode cX0_allLengths 2 = .ok (.iconst 0, 1) := by decide +kernel
theorem dX0_allLengths_3 : decode cX0_allLengths 3 = .ok (.istore_n 2, 1) := by decide +kernel
theorem dX0_allLengths_4 : decode cX0_allLengths 4 = .ok (.iload_n 2, 1) := by decide +kernel
theorem dX0_allLengths_5 : decode cX0_allLengths 5 = .ok (.aload_n 0, 1) := by decide +kernel
theorem dX0_allLengths_6 : decode cX0_allLengths 6 = .ok (.getfield 9, 3) := by decide +kernel
theorem dX0_allLengths_9 : decode cX0_allLengths 9 = .ok (.if_icmp .ge 17, 3) := by decide +kernel
theorem dX0_allLengths_12 : decode cX0_allLengths 12 = .ok (.iload_n 1, 1) := by decide +kernel
theorem dX0_allLengths_13 : decode cX0_allLengths 13 = .ok (.aload_n 0, 1) := by decide +kernel
theorem dX0_allLengths_14 : decode cX0_allLengths 14 = .ok (.iload_n 2, 1) := by decide +kernel
theorem dX0_allLengths_15 : decode cX0_allLengths 15 = .ok (.invokevirtual 68, 3) := by decide +kernel
theorem dX0_allLengths_18 : decode cX0_allLengths 18 = .ok (.iadd, 1) := by decide +kernel
theorem dX0_allLengths_19 : decode cX0_allLengths 19 = .ok (.istore_n 1, 1) := by decide +kernel
theorem dX0_allLengths_20 : decode cX0_allLengths 20 = .ok (.iinc 2 1, 3) := by decide +kernel
theorem dX0_allLengths_23 : decode cX0_allLengths 23 = .ok (.goto (-19), 3) := by decide +kernel
theorem dX0_allLengths_26 : decode cX0_allLengths 26 = .ok (.iload_n 1, 1) := by decide +kernel
theorem dX0_allLengths_27 : decode cX0_allLengths 27 = .ok (.ireturn, 1) := by decide +kernel
set_option maxRecDepth 20000 in
theorem ggX0_burstSpans_X0_fact : GoodIn wsX0_burstSpans wsX0_fact := goodIn_r _ [6, 7, 8, 9, 10, 11] (by decide +kernel) (by decide +kernel)
set_option maxRecDepth 20000 in
theorem gX0_burstSpans_X0_fact : GoodIn wsX0_burstSpans (wsV RX0 64 RX0 yX0_fact wsX0_fact) := goodIn_app (goodIn_of _ (by decide +kernel)) ggX0_burstSpans_X0_fact
theorem dX0_burstSpans_0 : decode cX0_burstSpans 0 = .ok (.iconst 0, 1) := by decide +kernel
theorem dX0_burstSpans_1 : decode cX0_burstSpans 1 = .ok (.istore_n 1, 1) := by decide +kernel
theorem dX0_burstSpans_2 : decode cX0_burstSpans 2 = .ok (.iconst 0, 1) := by decide +kernel
theorem dX0_burstSpans_3 : decode cX0_burstSpans 3 = .ok (.istore_n 2, 1) := by decide +kernel
theorem dX0_burstSpans_4 : decode cX0_burstSpans 4 = .ok (.iload_n 2, 1) := by decide +kernel
theorem dX0_burstSpans_5 : decode cX0_burstSpans 5 = .ok (.aload_n 0, 1) := by decide +kernel
theorem dX0_burstSpans_6 : decode cX0_burstSpans 6 = .ok (.getfield 9, 3) := by decide +kernel
theorem dX0_burstSpans_9 : decode cX0_burstSpans 9 = .ok (.if_icmp .ge 18, 3) := by decide +kernel
theorem dX0_burstSpans_12 : decode cX0_burstSpans 12 = .ok (.iload_n 1, 1) := by decide +kernel
theorem dX0_burstSpans_13 : decode cX0_burstSpans 13 = .ok (.aload_n 0, 1) := by decide +kernel
theorem dX0_burstSpans_14 : decode cX0_burstSpans 14 = .ok (.iload_n 2, 1) := by decide +kernel
theorem dX0_burstSpans_15 : decode cX0_burstSpans 15 = .ok (.iconst 4, 1) := by decide +kernel
theorem dX0_burstSpans_16 : decode cX0_burstSpans 16 = .ok (.invokevirtual 64, 3) := by decide +kernel
theorem dX0_burstSpans_19 : decode cX0_burstSpans 19 = .ok (.iadd, 1) := by decide +kernel
theorem dX0_burstSpans_20 : decode cX0_burstSpans 20 = .ok (.istore_n 1, 1) := by decide +kernel
theorem dX0_burstSpans_21 : decode cX0_burstSpans 21 = .ok (.iinc 2 1, 3) := by decide +kernel
theorem dX0_burstSpans_24 : decode cX0_burstSpans 24 = .ok (.goto (-20), 3) := by decide +kernel
theorem dX0_burstSpans_27 : decode cX0_burstSpans 27 = .ok (.iload_n 1, 1) := by decide +kernel
theorem dX0_burstSpans_28 : decode cX0_burstSpans 28 = .ok (.ireturn, 1) := by decide +kernel
set_option maxRecDepth 20000 in
theorem ggX0_lossBy_X0_fact : GoodIn wsX0_lossBy wsX0_fact := goodIn_r _ [5, 6, 7, 8, 9, 10] (by decide +kernel) (by decide +kernel)
set_option maxRecDepth 20000 in
theorem gX0_lossBy_X0_fact : GoodIn wsX0_lossBy (wsV RX0 64 RX0 yX0_fact wsX0_fact) := goodIn_app (goodIn_of _ (by decide +kernel)) ggX0_lossBy_X0_fact
theorem dX0_lossBy_0 : decode cX0_lossBy 0 = .ok (.aload_n 0, 1) := by decide +kernel
theorem dX0_lossBy_1 : decode cX0_lossBy 1 = .ok (.iload_n 1, 1) := by decide +kernel
theorem dX0_lossBy_2 : decode cX0_lossBy 2 = .ok (.iconst 3, 1) := by decide +kernel
theorem dX0_lossBy_3 : decode cX0_lossBy 3 = .ok (.invokevirtual 64, 3) := by decide +kernel
theorem dX0_lossBy_6 : decode cX0_lossBy 6 = .ok (.iconst 1, 1) := by decide +kernel
theorem dX0_lossBy_7 : decode cX0_lossBy 7 = .ok (.if_icmp .ne 11, 3) := by decide +kernel
theorem dX0_lossBy_10 : decode cX0_lossBy 10 = .ok (.iload_n 2, 1) := by decide +kernel
theorem dX0_lossBy_11 : decode cX0_lossBy 11 = .ok (.iconst 1, 1) := by decide +kernel
theorem dX0_lossBy_12 : decode cX0_lossBy 12 = .ok (.iadd, 1) := by decide +kernel
theorem dX0_lossBy_13 : decode cX0_lossBy 13 = .ok (.iconst 2, 1) := by decide +kernel
theorem dX0_lossBy_14 : decode cX0_lossBy 14 = .ok (.idiv, 1) := by decide +kernel
theorem dX0_lossBy_15 : decode cX0_lossBy 15 = .ok (.goto 4, 3) := by decide +kernel
theorem dX0_lossBy_18 : decode cX0_lossBy 18 = .ok (.iload_n 2, 1) := by decide +kernel
theorem dX0_lossBy_19 : decode cX0_lossBy 19 = .ok (.istore_n 3, 1) := by decide +kernel
theorem dX0_lossBy_20 : decode cX0_lossBy 20 = .ok (.aload_n 0, 1) := by decide +kernel
theorem dX0_lossBy_21 : decode cX0_lossBy 21 = .ok (.iload_n 1, 1) := by decide +kernel
theorem dX0_lossBy_22 : decode cX0_lossBy 22 = .ok (.iconst 0, 1) := by decide +kernel
theorem dX0_lossBy_23 : decode cX0_lossBy 23 = .ok (.invokevirtual 64, 3) := by decide +kernel
theorem dX0_lossBy_26 : decode cX0_lossBy 26 = .ok (.getstatic 71, 3) := by decide +kernel
theorem dX0_lossBy_29 : decode cX0_lossBy 29 = .ok (.aload_n 0, 1) := by decide +kernel
theorem dX0_lossBy_30 : decode cX0_lossBy 30 = .ok (.iload_n 1, 1) := by decide +kernel
theorem dX0_lossBy_31 : decode cX0_lossBy 31 = .ok (.iconst 1, 1) := by decide +kernel
theorem dX0_lossBy_32 : decode cX0_lossBy 32 = .ok (.invokevirtual 64, 3) := by decide +kernel
theorem dX0_lossBy_35 : decode cX0_lossBy 35 = .ok (.iaload, 1) := by decide +kernel
theorem dX0_lossBy_36 : decode cX0_lossBy 36 = .ok (.imul, 1) := by decide +kernel
theorem dX0_lossBy_37 : decode cX0_lossBy 37 = .ok (.iload_n 3, 1) := by decide +kernel
theorem dX0_lossBy_38 : decode cX0_lossBy 38 = .ok (.imul, 1) := by decide +kernel
theorem dX0_lossBy_39 : decode cX0_lossBy 39 = .ok (.iload_n 3, 1) := by decide +kernel
theorem dX0_lossBy_40 : decode cX0_lossBy 40 = .ok (.imul, 1) := by decide +kernel
theorem dX0_lossBy_41 : decode cX0_lossBy 41 = .ok (.bipush 100, 2) := by decide +kernel
theorem dX0_lossBy_43 : decode cX0_lossBy 43 = .ok (.idiv, 1) := by decide +kernel
theorem dX0_lossBy_44 : decode cX0_lossBy 44 = .ok (.aload_n 0, 1) := by decide +kernel
theorem dX0_lossBy_45 : decode cX0_lossBy 45 = .ok (.iload_n 1, 1) := by decide +kernel
theorem dX0_lossBy_46 : decode cX0_lossBy 46 = .ok (.iconst 2, 1) := by decide +kernel
theorem dX0_lossBy_47 : decode cX0_lossBy 47 = .ok (.invokevirtual 64, 3) := by decide +kernel
theorem dX0_lossBy_50 : decode cX0_lossBy 50 = .ok (.iadd, 1) := by decide +kernel
theorem dX0_lossBy_51 : decode cX0_lossBy 51 = .ok (.ireturn, 1) := by decide +kernel
set_option maxRecDepth 20000 in
theorem ggX0_failureOf_X0_fact : GoodIn wsX0_failureOf wsX0_fact := goodIn_r _ [5, 6, 11, 12, 13, 14] (by decide +kernel) (by decide +kernel)
set_option maxRecDepth 20000 in
theorem gX0_failureOf_X0_fact : GoodIn wsX0_failureOf (wsV RX0 64 RX0 yX0_fact wsX0_fact) := goodIn_app (goodIn_of _ (by decide +kernel)) ggX0_failureOf_X0_fact
set_option maxRecDepth 20000 in
theorem ggX0_failureOf_X0_lossBy : GoodIn wsX0_failureOf wsX0_lossBy := goodIn_r _ [10, 1, 2, 3, 4, 5, 6, 11, 12, 13, 14] (by decide +kernel) (by decide +kernel)
set_option maxRecDepth 20000 in
theorem gX0_failureOf_X0_lossBy : GoodIn wsX0_failureOf (wsV RX0 77 RX0 yX0_lossBy wsX0_lossBy) := goodIn_app (goodIn_of _ (by decide +kernel)) ggX0_failureOf_X0_lossBy
theorem dX0_failureOf_0 : decode cX0_failureOf 0 = .ok (.aload_n 0, 1) := by decide +kernel
theorem dX0_failureOf_1 : decode cX0_failureOf 1 = .ok (.iload_n 1, 1) := by decide +kernel
theorem dX0_failureOf_2 : decode cX0_failureOf 2 = .ok (.iconst 4, 1) := by decide +kernel
theorem dX0_failureOf_3 : decode cX0_failureOf 3 = .ok (.invokevirtual 64, 3) := by decide +kernel
theorem dX0_failureOf_6 : decode cX0_failureOf 6 = .ok (.iconst 1, 1) := by decide +kernel
theorem dX0_failureOf_7 : decode cX0_failureOf 7 = .ok (.if_icmp .ne 5, 3) := by decide +kernel
theorem dX0_failureOf_10 : decode cX0_failureOf 10 = .ok (.iconst 1, 1) := by decide +kernel
theorem dX0_failureOf_11 : decode cX0_failureOf 11 = .ok (.ireturn, 1) := by decide +kernel
theorem dX0_failureOf_12 : decode cX0_failureOf 12 = .ok (.iload_n 2, 1) := by decide +kernel
theorem dX0_failureOf_13 : decode cX0_failureOf 13 = .ok (.getstatic 74, 3) := by decide +kernel
theorem dX0_failureOf_16 : decode cX0_failureOf 16 = .ok (.aload_n 0, 1) := by decide +kernel
theorem dX0_failureOf_17 : decode cX0_failureOf 17 = .ok (.iload_n 1, 1) := by decide +kernel
theorem dX0_failureOf_18 : decode cX0_failureOf 18 = .ok (.iconst 1, 1) := by decide +kernel
theorem dX0_failureOf_19 : decode cX0_failureOf 19 = .ok (.invokevirtual 64, 3) := by decide +kernel
theorem dX0_failureOf_22 : decode cX0_failureOf 22 = .ok (.iaload, 1) := by decide +kernel
theorem dX0_failureOf_23 : decode cX0_failureOf 23 = .ok (.if_icmp .le 5, 3) := by decide +kernel
theorem dX0_failureOf_26 : decode cX0_failureOf 26 = .ok (.iconst 4, 1) := by decide +kernel
theorem dX0_failureOf_27 : decode cX0_failureOf 27 = .ok (.ireturn, 1) := by decide +kernel
theorem dX0_failureOf_28 : decode cX0_failureOf 28 = .ok (.iload_n 2, 1) := by decide +kernel
theorem dX0_failureOf_29 : decode cX0_failureOf 29 = .ok (.aload_n 0, 1) := by decide +kernel
theorem dX0_failureOf_30 : decode cX0_failureOf 30 = .ok (.iload_n 1, 1) := by decide +kernel
theorem dX0_failureOf_31 : decode cX0_failureOf 31 = .ok (.iload_n 3, 1) := by decide +kernel
theorem dX0_failureOf_32 : decode cX0_failureOf 32 = .ok (.invokevirtual 77, 3) := by decide +kernel
theorem dX0_failureOf_35 : decode cX0_failureOf 35 = .ok (.isub, 1) := by decide +kernel
theorem dX0_failureOf_36 : decode cX0_failureOf 36 = .ok (.ifCond .ge 7, 3) := by decide +kernel
theorem dX0_failureOf_39 : decode cX0_failureOf 39 = .ok (.iconst 3, 1) := by decide +kernel
theorem dX0_failureOf_40 : decode cX0_failureOf 40 = .ok (.goto 4, 3) := by decide +kernel
theorem dX0_failureOf_43 : decode cX0_failureOf 43 = .ok (.iconst 0, 1) := by decide +kernel
theorem dX0_failureOf_44 : decode cX0_failureOf 44 = .ok (.ireturn, 1) := by decide +kernel
theorem dX1_init_0 : decode cX1_init 0 = .ok (.aload_n 0, 1) := by decide +kernel
theorem dX1_init_1 : decode cX1_init 1 = .ok (.invokespecial 3, 3) := by decide +kernel
theorem dX1_init_4 : decode cX1_init 4 = .ok (.aload_n 0, 1) := by decide +kernel
theorem dX1_init_5 : decode cX1_init 5 = .ok (.bipush 11, 2) := by decide +kernel
theorem dX1_init_7 : decode cX1_init 7 = .ok (.newarray .int, 2) := by decide +kernel
theorem dX1_init_9 : decode cX1_init 9 = .ok (.putfield 9, 3) := by decide +kernel
theorem dX1_init_12 : decode cX1_init 12 = .ok (.return_, 1) := by decide +kernel
set_option maxRecDepth 20000 in
theorem ggX1_bestSet_J7_fill_53178 : GoodIn wsX1_bestSet wsJ7_fill_53178 := goodIn_r _ [8] (by decide +kernel) (by decide +kernel)
set_option maxRecDepth 20000 in
theorem gX1_bestSet_J7_fill_53178 : GoodIn wsX1_bestSet (va_wsS RX1 16 yJ7_fill_53178 wsJ7_fill_53178) := goodIn_app (goodIn_of _ (by decide +kernel)) ggX1_bestSet_J7_fill_53178
set_option maxRecDepth 20000 in
theorem ggX1_bestSet_X1_leadOn : GoodIn wsX1_bestSet wsX1_leadOn := goodIn_r _ [13, 4, 3, 1, 14, 15, 16, 17, 18, 19, 20, 21, 22, 23, 24, 25, 26, 27, 28, 29, 30, 31, 32, 34, 35, 36, 37, 33] (by decide +kernel) (by decide +kernel)
set_option maxRecDepth 20000 in
theorem gX1_bestSet_X1_leadOn : GoodIn wsX1_bestSet (wsV RX1 27 RX1 yX1_leadOn wsX1_leadOn) := goodIn_app (goodIn_of _ (by decide +kernel)) ggX1_bestSet_X1_leadOn
theorem dX1_bestSet_0 : decode cX1_bestSet 0 = .ok (.aload_n 0, 1) := by decide +kernel
theorem dX1_bestSet_1 : decode cX1_bestSet 1 = .ok (.getfield 9, 3) := by decide +kernel
theorem dX1_bestSet_4 : decode cX1_bestSet 4 = .ok (.ldc 15, 2) := by decide +kernel
theorem dX1_bestSet_6 : decode cX1_bestSet 6 = .ok (.invokestatic 16, 3) := by decide +kernel
theorem dX1_bestSet_9 : decode cX1_bestSet 9 = .ok (.aload_n 0, 1) := by decide +kernel
theorem dX1_bestSet_10 : decode cX1_bestSet 10 = .ok (.aload_n 1, 1) := by decide +kernel
theorem dX1_bestSet_11 : decode cX1_bestSet 11 = .ok (.iload_n 2, 1) := by decide +kernel
theorem dX1_bestSet_12 : decode cX1_bestSet 12 = .ok (.iconst 0, 1) := by decide +kernel
theorem dX1_bestSet_13 : decode cX1_bestSet 13 = .ok (.aload_n 1, 1) := by decide +kernel
theorem dX1_bestSet_14 : decode cX1_bestSet 14 = .ok (.getfield 22, 3) := by decide +kernel
theorem dX1_bestSet_17 : decode cX1_bestSet 17 = .ok (.iconst 1, 1) := by decide +kernel
theorem dX1_bestSet_18 : decode cX1_bestSet 18 = .ok (.iaload, 1) := by decide +kernel
theorem dX1_bestSet_19 : decode cX1_bestSet 19 = .ok (.iconst 0, 1) := by decide +kernel
theorem dX1_bestSet_20 : decode cX1_bestSet 20 = .ok (.invokevirtual 27, 3) := by decide +kernel
theorem dX1_bestSet_23 : decode cX1_bestSet 23 = .ok (.iconst 0, 1) := by decide +kernel
theorem dX1_bestSet_24 : decode cX1_bestSet 24 = .ok (.istore_n 3, 1) := by decide +kernel
theorem dX1_bestSet_25 : decode cX1_bestSet 25 = .ok (.iload_n 3, 1) := by decide +kernel
theorem dX1_bestSet_26 : decode cX1_bestSet 26 = .ok (.aload_n 1, 1) := by decide +kernel
theorem dX1_bestSet_27 : decode cX1_bestSet 27 = .ok (.getfield 31, 3) := by decide +kernel
theorem dX1_bestSet_30 : decode cX1_bestSet 30 = .ok (.if_icmp .ge 39, 3) := by decide +kernel
theorem dX1_bestSet_33 : decode cX1_bestSet 33 = .ok (.aload_n 0, 1) := by decide +kernel
theorem dX1_bestSet_34 : decode cX1_bestSet 34 = .ok (.getfield 9, 3) := by decide +kernel
theorem dX1_bestSet_37 : decode cX1_bestSet 37 = .ok (.iload_n 3, 1) := by decide +kernel
theorem dX1_bestSet_38 : decode cX1_bestSet 38 = .ok (.iaload, 1) := by decide +kernel
theorem dX1_bestSet_39 : decode cX1_bestSet 39 = .ok (.ldc 15, 2) := by decide +kernel
theorem dX1_bestSet_41 : decode cX1_bestSet 41 = .ok (.if_icmp .eq 22, 3) := by decide +kernel
theorem dX1_bestSet_44 : decode cX1_bestSet 44 = .ok (.aload_n 0, 1) := by decide +kernel
theorem dX1_bestSet_45 : decode cX1_bestSet 45 = .ok (.aload_n 1, 1) := by decide +kernel
theorem dX1_bestSet_46 : decode cX1_bestSet 46 = .ok (.iload_n 2, 1) := by decide +kernel
theorem dX1_bestSet_47 : decode cX1_bestSet 47 = .ok (.iload_n 3, 1) := by decide +kernel
theorem dX1_bestSet_48 : decode cX1_bestSet 48 = .ok (.aload_n 1, 1) := by decide +kernel
theorem dX1_bestSet_49 : decode cX1_bestSet 49 = .ok (.getfield 22, 3) := by decide +kernel
theorem dX1_bestSet_52 : decode cX1_bestSet 52 = .ok (.iconst 3, 1) := by decide +kernel
theorem dX1_bestSet_53 : decode cX1_bestSet 53 = .ok (.iaload, 1) := by decide +kernel
theorem dX1_bestSet_54 : decode cX1_bestSet 54 = .ok (.aload_n 0, 1) := by decide +kernel
theorem dX1_bestSet_55 : decode cX1_bestSet 55 = .ok (.getfield 9, 3) := by decide +kernel
theorem dX1_bestSet_58 : decode cX1_bestSet 58 = .ok (.iload_n 3, 1) := by decide +kernel
theorem dX1_bestSet_59 : decode cX1_bestSet 59 = .ok (.iaload, 1) := by decide +kernel
theorem dX1_bestSet_60 : decode cX1_bestSet 60 = .ok (.invokevirtual 27, 3) := by decide +kernel
theorem dX1_bestSet_63 : decode cX1_bestSet 63 = .ok (.iinc 3 1, 3) := by decide +kernel
theorem dX1_bestSet_66 : decode cX1_bestSet 66 = .ok (.goto (-41), 3) := by decide +kernel
theorem dX1_bestSet_69 : decode cX1_bestSet 69 = .ok (.aload_n 0, 1) := by decide +kernel
theorem dX1_bestSet_70 : decode cX1_bestSet 70 = .ok (.getfield 9, 3) := by decide +kernel
theorem dX1_bestSet_73 : decode cX1_bestSet 73 = .ok (.aload_n 1, 1) := by decide +kernel
theorem dX1_bestSet_74 : decode cX1_bestSet 74 = .ok (.getfield 31, 3) := by decide +kernel
theorem dX1_bestSet_77 : decode cX1_bestSet 77 = .ok (.iaload, 1) := by decide +kernel
theorem dX1_bestSet_78 : decode cX1_bestSet 78 = .ok (.ireturn, 1) := by decide +kernel
set_option maxRecDepth 20000 in
theorem ggX1_leadOn_X0_failureOf : GoodIn wsX1_leadOn wsX0_failureOf := goodIn_r _ [12, 13, 14, 15, 11, 16, 17, 18, 19, 20, 21, 23, 24, 25, 26] (by decide +kernel) (by decide +kernel)
set_option maxRecDepth 20000 in
theorem gX1_leadOn_X0_failureOf : GoodIn wsX1_leadOn (wsV RX1 41 RX0 yX0_failureOf wsX0_failureOf) := goodIn_app (goodIn_of _ (by decide +kernel)) ggX1_leadOn_X0_failureOf
set_option maxRecDepth 20000 in
theorem ggX1_leadOn_X0_lossBy : GoodIn wsX1_leadOn wsX0_lossBy := goodIn_r _ [21, 13, 14, 15, 11, 16, 17, 23, 24, 25, 26] (by decide +kernel) (by decide +kernel)
set_option maxRecDepth 20000 in
theorem gX1_leadOn_X0_lossBy : GoodIn wsX1_leadOn (wsV RX1 45 RX0 yX0_lossBy wsX0_lossBy) := goodIn_app (goodIn_of _ (by decide +kernel)) ggX1_leadOn_X0_lossBy
theorem dX1_leadOn_0 : decode cX1_leadOn 0 = .ok (.iload 4, 2) := by decide +kernel
theorem dX1_leadOn_2 : decode cX1_leadOn 2 = .ok (.istore 6, 2) := by decide +kernel
theorem dX1_leadOn_4 : decode cX1_leadOn 4 = .ok (.iload_n 3, 1) := by decide +kernel
theorem dX1_leadOn_5 : decode cX1_leadOn 5 = .ok (.istore 7, 2) := by decide +kernel
theorem dX1_leadOn_7 : decode cX1_leadOn 7 = .ok (.iload 7, 2) := by decide +kernel
theorem dX1_leadOn_9 : decode cX1_leadOn 9 = .ok (.aload_n 1, 1) := by decide +kernel
theorem dX1_leadOn_10 : decode cX1_leadOn 10 = .ok (.getfield 31, 3) := by decide +kernel
theorem dX1_leadOn_13 : decode cX1_leadOn 13 = .ok (.if_icmp .ge 84, 3) := by decide +kernel
theorem dX1_leadOn_16 : decode cX1_leadOn 16 = .ok (.iload 6, 2) := by decide +kernel
theorem dX1_leadOn_18 : decode cX1_leadOn 18 = .ok (.aload_n 1, 1) := by decide +kernel
theorem dX1_leadOn_19 : decode cX1_leadOn 19 = .ok (.getfield 22, 3) := by decide +kernel
theorem dX1_leadOn_22 : decode cX1_leadOn 22 = .ok (.iconst 4, 1) := by decide +kernel
theorem dX1_leadOn_23 : decode cX1_leadOn 23 = .ok (.iaload, 1) := by decide +kernel
theorem dX1_leadOn_24 : decode cX1_leadOn 24 = .ok (.if_icmp .lt 42, 3) := by decide +kernel
theorem dX1_leadOn_27 : decode cX1_leadOn 27 = .ok (.iload 6, 2) := by decide +kernel
theorem dX1_leadOn_29 : decode cX1_leadOn 29 = .ok (.aload_n 1, 1) := by decide +kernel
theorem dX1_leadOn_30 : decode cX1_leadOn 30 = .ok (.getfield 22, 3) := by decide +kernel
theorem dX1_leadOn_33 : decode cX1_leadOn 33 = .ok (.iconst 3, 1) := by decide +kernel
theorem dX1_leadOn_34 : decode cX1_leadOn 34 = .ok (.iaload, 1) := by decide +kernel
theorem dX1_leadOn_35 : decode cX1_leadOn 35 = .ok (.if_icmp .ge 31, 3) := by decide +kernel
theorem dX1_leadOn_38 : decode cX1_leadOn 38 = .ok (.aload_n 0, 1) := by decide +kernel
theorem dX1_leadOn_39 : decode cX1_leadOn 39 = .ok (.getfield 9, 3) := by decide +kernel
theorem dX1_leadOn_42 : decode cX1_leadOn 42 = .ok (.iload 7, 2) := by decide +kernel
theorem dX1_leadOn_44 : decode cX1_leadOn 44 = .ok (.aload_n 0, 1) := by decide +kernel
theorem dX1_leadOn_45 : decode cX1_leadOn 45 = .ok (.getfield 9, 3) := by decide +kernel
theorem dX1_leadOn_48 : decode cX1_leadOn 48 = .ok (.iload 7, 2) := by decide +kernel
theorem dX1_leadOn_50 : decode cX1_leadOn 50 = .ok (.iaload, 1) := by decide +kernel
theorem dX1_leadOn_51 : decode cX1_leadOn 51 = .ok (.iload 5, 2) := by decide +kernel
theorem dX1_leadOn_53 : decode cX1_leadOn 53 = .ok (.sipush 2048, 3) := by decide +kernel
theorem dX1_leadOn_56 : decode cX1_leadOn 56 = .ok (.iadd, 1) := by decide +kernel
theorem dX1_leadOn_57 : decode cX1_leadOn 57 = .ok (.iconst 1, 1) := by decide +kernel
theorem dX1_leadOn_58 : decode cX1_leadOn 58 = .ok (.iload 7, 2) := by decide +kernel
theorem dX1_leadOn_60 : decode cX1_leadOn 60 = .ok (.ishl, 1) := by decide +kernel
theorem dX1_leadOn_61 : decode cX1_leadOn 61 = .ok (.iadd, 1) := by decide +kernel
theorem dX1_leadOn_62 : decode cX1_leadOn 62 = .ok (.invokestatic 35, 3) := by decide +kernel
theorem dX1_leadOn_65 : decode cX1_leadOn 65 = .ok (.iastore, 1) := by decide +kernel
theorem dX1_leadOn_66 : decode cX1_leadOn 66 = .ok (.aload_n 1, 1) := by decide +kernel
theorem dX1_leadOn_67 : decode cX1_leadOn 67 = .ok (.iload 7, 2) := by decide +kernel
theorem dX1_leadOn_69 : decode cX1_leadOn 69 = .ok (.iload 6, 2) := by decide +kernel
theorem dX1_leadOn_71 : decode cX1_leadOn 71 = .ok (.iload_n 2, 1) := by decide +kernel
theorem dX1_leadOn_72 : decode cX1_leadOn 72 = .ok (.invokevirtual 41, 3) := by decide +kernel
theorem dX1_leadOn_75 : decode cX1_leadOn 75 = .ok (.ifCond .eq 4, 3) := by decide +kernel
theorem dX1_leadOn_78 : decode cX1_leadOn 78 = .ok (.return_, 1) := by decide +kernel
theorem dX1_leadOn_79 : decode cX1_leadOn 79 = .ok (.iload 6, 2) := by decide +kernel
theorem dX1_leadOn_81 : decode cX1_leadOn 81 = .ok (.aload_n 1, 1) := by decide +kernel
theorem dX1_leadOn_82 : decode cX1_leadOn 82 = .ok (.iload 7, 2) := by decide +kernel
theorem dX1_leadOn_84 : decode cX1_leadOn 84 = .ok (.iload_n 2, 1) := by decide +kernel
theorem dX1_leadOn_85 : decode cX1_leadOn 85 = .ok (.invokevirtual 45, 3) := by decide +kernel
theorem dX1_leadOn_88 : decode cX1_leadOn 88 = .ok (.isub, 1) := by decide +kernel
theorem dX1_leadOn_89 : decode cX1_leadOn 89 = .ok (.istore 6, 2) := by decide +kernel
theorem dX1_leadOn_91 : decode cX1_leadOn 91 = .ok (.iinc 7 1, 3) := by decide +kernel
theorem dX1_leadOn_94 : decode cX1_leadOn 94 = .ok (.goto (-87), 3) := by decide +kernel
theorem dX1_leadOn_97 : decode cX1_leadOn 97 = .ok (.iload 6, 2) := by decide +kernel
theorem dX1_leadOn_99 : decode cX1_leadOn 99 = .ok (.aload_n 1, 1) := by decide +kernel
theorem dX1_leadOn_100 : decode cX1_leadOn 100 = .ok (.getfield 22, 3) := by decide +kernel
theorem dX1_leadOn_103 : decode cX1_leadOn 103 = .ok (.iconst 2, 1) := by decide +kernel
theorem dX1_leadOn_104 : decode cX1_leadOn 104 = .ok (.iaload, 1) := by decide +kernel
theorem dX1_leadOn_105 : decode cX1_leadOn 105 = .ok (.if_icmp .lt 26, 3) := by decide +kernel
theorem dX1_leadOn_108 : decode cX1_leadOn 108 = .ok (.aload_n 0, 1) := by decide +kernel
theorem dX1_leadOn_109 : decode cX1_leadOn 109 = .ok (.getfield 9, 3) := by decide +kernel
theorem dX1_leadOn_112 : decode cX1_leadOn 112 = .ok (.aload_n 1, 1) := by decide +kernel
theorem dX1_leadOn_113 : decode cX1_leadOn 113 = .ok (.getfield 31, 3) := by decide +kernel
theorem dX1_leadOn_116 : decode cX1_leadOn 116 = .ok (.aload_n 0, 1) := by decide +kernel
theorem dX1_leadOn_117 : decode cX1_leadOn 117 = .ok (.getfield 9, 3) := by decide +kernel
theorem dX1_leadOn_120 : decode cX1_leadOn 120 = .ok (.aload_n 1, 1) := by decide +kernel
theorem dX1_leadOn_121 : decode cX1_leadOn 121 = .ok (.getfield 31, 3) := by decide +kernel
theorem dX1_leadOn_124 : decode cX1_leadOn 124 = .ok (.iaload, 1) := by decide +kernel
theorem dX1_leadOn_125 : decode cX1_leadOn 125 = .ok (.iload 5, 2) := by decide +kernel
theorem dX1_leadOn_127 : decode cX1_leadOn 127 = .ok (.invokestatic 35, 3) := by decide +kernel
theorem dX1_leadOn_130 : decode cX1_leadOn 130 = .ok (.iastore, 1) := by decide +kernel
theorem dX1_leadOn_131 : decode cX1_leadOn 131 = .ok (.return_, 1) := by decide +kernel
theorem dX2_init_0 : decode cX2_init 0 = .ok (.aload_n 0, 1) := by decide +kernel
theorem dX2_init_1 : decode cX2_init 1 = .ok (.invokespecial 3, 3) := by decide +kernel
theorem dX2_init_4 : decode cX2_init 4 = .ok (.aload_n 0, 1) := by decide +kernel
theorem dX2_init_5 : decode cX2_init 5 = .ok (.ldc 9, 2) := by decide +kernel
theorem dX2_init_7 : decode cX2_init 7 = .ok (.putfield 10, 3) := by decide +kernel
theorem dX2_init_10 : decode cX2_init 10 = .ok (.aload_n 0, 1) := by decide +kernel
theorem dX2_init_11 : decode cX2_init 11 = .ok (.iconst 0, 1) := by decide +kernel
theorem dX2_init_12 : decode cX2_init 12 = .ok (.putfield 16, 3) := by decide +kernel
theorem dX2_init_15 : decode cX2_init 15 = .ok (.aload_n 0, 1) := by decide +kernel
theorem dX2_init_16 : decode cX2_init 16 = .ok (.bipush 11, 2) := by decide +kernel
theorem dX2_init_18 : decode cX2_init 18 = .ok (.newarray .int, 2) := by decide +kernel
theorem dX2_init_20 : decode cX2_init 20 = .ok (.putfield 19, 3) := by decide +kernel
theorem dX2_init_23 : decode cX2_init 23 = .ok (.aload_n 0, 1) := by decide +kernel
theorem dX2_init_24 : decode cX2_init 24 = .ok (.bipush 11, 2) := by decide +kernel
theorem dX2_init_26 : decode cX2_init 26 = .ok (.newarray .int, 2) := by decide +kernel
theorem dX2_init_28 : decode cX2_init 28 = .ok (.putfield 23, 3) := by decide +kernel
theorem dX2_init_31 : decode cX2_init 31 = .ok (.return_, 1) := by decide +kernel
set_option maxRecDepth 20000 in
theorem ggX2_follow_J7_fill_53178 : GoodIn wsX2_follow wsJ7_fill_53178 := goodIn_r _ [11] (by decide +kernel) (by decide +kernel)
set_option maxRecDepth 20000 in
theorem gX2_follow_J7_fill_53178 : GoodIn wsX2_follow (va_wsS RX2 26 yJ7_fill_53178 wsJ7_fill_53178) := goodIn_app (goodIn_of _ (by decide +kernel)) ggX2_follow_J7_fill_53178
set_option maxRecDepth 20000 in
theorem ggX2_follow_X2_failureAt : GoodIn wsX2_follow wsX2_failureAt := goodIn_r _ [16, 6, 17, 18, 19, 20, 3, 7, 21, 22, 23, 24, 25, 26, 27, 28, 29, 30, 31, 32, 33, 34, 35, 36, 37, 38, 39, 45, 46, 47, 48, 41, 42, 43, 44] (by decide +kernel) (by decide +kernel)
set_option maxRecDepth 20000 in
theorem gX2_follow_X2_failureAt : GoodIn wsX2_follow (wsV RX2 40 RX2 yX2_failureAt wsX2_failureAt) := goodIn_app (goodIn_of _ (by decide +kernel)) ggX2_follow_X2_failureAt
set_option maxRecDepth 20000 in
theorem ggX2_follow_X0_lossBy : GoodIn wsX2_follow wsX0_lossBy := goodIn_r _ [39, 31, 32, 33, 24, 34, 35, 45, 46, 47, 48] (by decide +kernel) (by decide +kernel)
set_option maxRecDepth 20000 in
theorem gX2_follow_X0_lossBy : GoodIn wsX2_follow (wsV RX2 44 RX0 yX0_lossBy wsX0_lossBy) := goodIn_app (goodIn_of _ (by decide +kernel)) ggX2_follow_X0_lossBy
theorem dX2_follow_0 : decode cX2_follow 0 = .ok (.aload_n 0, 1) := by decide +kernel
theorem dX2_follow_1 : decode cX2_follow 1 = .ok (.getfield 19, 3) := by decide +kernel
theorem dX2_follow_4 : decode cX2_follow 4 = .ok (.ldc 9, 2) := by decide +kernel
theorem dX2_follow_6 : decode cX2_follow 6 = .ok (.invokestatic 26, 3) := by decide +kernel
theorem dX2_follow_9 : decode cX2_follow 9 = .ok (.aload_n 0, 1) := by decide +kernel
theorem dX2_follow_10 : decode cX2_follow 10 = .ok (.getfield 23, 3) := by decide +kernel
theorem dX2_follow_13 : decode cX2_follow 13 = .ok (.ldc 9, 2) := by decide +kernel
theorem dX2_follow_15 : decode cX2_follow 15 = .ok (.invokestatic 26, 3) := by decide +kernel
theorem dX2_follow_18 : decode cX2_follow 18 = .ok (.aload_n 0, 1) := by decide +kernel
theorem dX2_follow_19 : decode cX2_follow 19 = .ok (.ldc 9, 2) := by decide +kernel
theorem dX2_follow_21 : decode cX2_follow 21 = .ok (.putfield 10, 3) := by decide +kernel
theorem dX2_follow_24 : decode cX2_follow 24 = .ok (.aload_n 0, 1) := by decide +kernel
theorem dX2_follow_25 : decode cX2_follow 25 = .ok (.iconst 0, 1) := by decide +kernel
theorem dX2_follow_26 : decode cX2_follow 26 = .ok (.putfield 16, 3) := by decide +kernel
theorem dX2_follow_29 : decode cX2_follow 29 = .ok (.aload_n 1, 1) := by decide +kernel
theorem dX2_follow_30 : decode cX2_follow 30 = .ok (.getfield 32, 3) := by decide +kernel
theorem dX2_follow_33 : decode cX2_follow 33 = .ok (.iconst 1, 1) := by decide +kernel
theorem dX2_follow_34 : decode cX2_follow 34 = .ok (.iaload, 1) := by decide +kernel
theorem dX2_follow_35 : decode cX2_follow 35 = .ok (.istore_n 3, 1) := by decide +kernel
theorem dX2_follow_36 : decode cX2_follow 36 = .ok (.iconst 0, 1) := by decide +kernel
theorem dX2_follow_37 : decode cX2_follow 37 = .ok (.istore 4, 2) := by decide +kernel
theorem dX2_follow_39 : decode cX2_follow 39 = .ok (.iload 4, 2) := by decide +kernel
theorem dX2_follow_41 : decode cX2_follow 41 = .ok (.aload_n 1, 1) := by decide +kernel
theorem dX2_follow_42 : decode cX2_follow 42 = .ok (.getfield 37, 3) := by decide +kernel
theorem dX2_follow_45 : decode cX2_follow 45 = .ok (.if_icmp .gt 78, 3) := by decide +kernel
theorem dX2_follow_48 : decode cX2_follow 48 = .ok (.aload_n 0, 1) := by decide +kernel
theorem dX2_follow_49 : decode cX2_follow 49 = .ok (.getfield 16, 3) := by decide +kernel
theorem dX2_follow_52 : decode cX2_follow 52 = .ok (.ifCond .ne 71, 3) := by decide +kernel
theorem dX2_follow_55 : decode cX2_follow 55 = .ok (.aload_n 0, 1) := by decide +kernel
theorem dX2_follow_56 : decode cX2_follow 56 = .ok (.getfield 19, 3) := by decide +kernel
theorem dX2_follow_59 : decode cX2_follow 59 = .ok (.iload 4, 2) := by decide +kernel
theorem dX2_follow_61 : decode cX2_follow 61 = .ok (.iload_n 3, 1) := by decide +kernel
theorem dX2_follow_62 : decode cX2_follow 62 = .ok (.iastore, 1) := by decide +kernel
theorem dX2_follow_63 : decode cX2_follow 63 = .ok (.aload_n 0, 1) := by decide +kernel
theorem dX2_follow_64 : decode cX2_follow 64 = .ok (.aload_n 0, 1) := by decide +kernel
theorem dX2_follow_65 : decode cX2_follow 65 = .ok (.aload_n 1, 1) := by decide +kernel
theorem dX2_follow_66 : decode cX2_follow 66 = .ok (.iload 4, 2) := by decide +kernel
theorem dX2_follow_68 : decode cX2_follow 68 = .ok (.iload_n 3, 1) := by decide +kernel
theorem dX2_follow_69 : decode cX2_follow 69 = .ok (.iload_n 2, 1) := by decide +kernel
theorem dX2_follow_70 : decode cX2_follow 70 = .ok (.invokevirtual 40, 3) := by decide +kernel
theorem dX2_follow_73 : decode cX2_follow 73 = .ok (.putfield 16, 3) := by decide +kernel
theorem dX2_follow_76 : decode cX2_follow 76 = .ok (.aload_n 0, 1) := by decide +kernel
theorem dX2_follow_77 : decode cX2_follow 77 = .ok (.getfield 16, 3) := by decide +kernel
theorem dX2_follow_80 : decode cX2_follow 80 = .ok (.ifCond .eq 12, 3) := by decide +kernel
theorem dX2_follow_83 : decode cX2_follow 83 = .ok (.aload_n 0, 1) := by decide +kernel
theorem dX2_follow_84 : decode cX2_follow 84 = .ok (.iload 4, 2) := by decide +kernel
theorem dX2_follow_86 : decode cX2_follow 86 = .ok (.putfield 10, 3) := by decide +kernel
theorem dX2_follow_89 : decode cX2_follow 89 = .ok (.goto 28, 3) := by decide +kernel
theorem dX2_follow_92 : decode cX2_follow 92 = .ok (.iload 4, 2) := by decide +kernel
theorem dX2_follow_94 : decode cX2_follow 94 = .ok (.aload_n 1, 1) := by decide +kernel
theorem dX2_follow_95 : decode cX2_follow 95 = .ok (.getfield 37, 3) := by decide +kernel
theorem dX2_follow_98 : decode cX2_follow 98 = .ok (.if_icmp .ge 19, 3) := by decide +kernel
theorem dX2_follow_101 : decode cX2_follow 101 = .ok (.aload_n 0, 1) := by decide +kernel
theorem dX2_follow_102 : decode cX2_follow 102 = .ok (.getfield 23, 3) := by decide +kernel
theorem dX2_follow_105 : decode cX2_follow 105 = .ok (.iload 4, 2) := by decide +kernel
theorem dX2_follow_107 : decode cX2_follow 107 = .ok (.iaload, 1) := by decide +kernel
theorem dX2_follow_108 : decode cX2_follow 108 = .ok (.aload_n 1, 1) := by decide +kernel
theorem dX2_follow_109 : decode cX2_follow 109 = .ok (.iload 4, 2) := by decide +kernel
theorem dX2_follow_111 : decode cX2_follow 111 = .ok (.iload_n 2, 1) := by decide +kernel
theorem dX2_follow_112 : decode cX2_follow 112 = .ok (.invokevirtual 44, 3) := by decide +kernel
theorem dX2_follow_115 : decode cX2_follow 115 = .ok (.isub, 1) := by decide +kernel
theorem dX2_follow_116 : decode cX2_follow 116 = .ok (.istore_n 3, 1) := by decide +kernel
theorem dX2_follow_117 : decode cX2_follow 117 = .ok (.iinc 4 1, 3) := by decide +kernel
theorem dX2_follow_120 : decode cX2_follow 120 = .ok (.goto (-81), 3) := by decide +kernel
theorem dX2_follow_123 : decode cX2_follow 123 = .ok (.return_, 1) := by decide +kernel
set_option maxRecDepth 20000 in
theorem ggX2_failureAt_X0_hasPump : GoodIn wsX2_failureAt wsX0_hasPump := goodIn_r _ [12, 13, 27, 28, 29, 30] (by decide +kernel) (by decide +kernel)
set_option maxRecDepth 20000 in
theorem gX2_failureAt_X0_hasPump : GoodIn wsX2_failureAt (wsV RX2 48 RX0 yX0_hasPump wsX0_hasPump) := goodIn_app (goodIn_of _ (by decide +kernel)) ggX2_failureAt_X0_hasPump
set_option maxRecDepth 20000 in
theorem ggX2_failureAt_X0_failureOf : GoodIn wsX2_failureAt wsX0_failureOf := goodIn_r _ [17, 18, 19, 20, 11, 21, 22, 23, 24, 25, 26, 27, 28, 29, 30] (by decide +kernel) (by decide +kernel)
set_option maxRecDepth 20000 in
theorem gX2_failureAt_X0_failureOf : GoodIn wsX2_failureAt (wsV RX2 57 RX0 yX0_failureOf wsX0_failureOf) := goodIn_app (goodIn_of _ (by decide +kernel)) ggX2_failureAt_X0_failureOf
theorem dX2_failureAt_0 : decode cX2_failureAt 0 = .ok (.aload_n 1, 1) := by decide +kernel
theorem dX2_failureAt_1 : decode cX2_failureAt 1 = .ok (.iload_n 2, 1) := by decide +kernel
theorem dX2_failureAt_2 : decode cX2_failureAt 2 = .ok (.invokevirtual 48, 3) := by decide +kernel
theorem dX2_failureAt_5 : decode cX2_failureAt 5 = .ok (.istore 5, 2) := by decide +kernel
theorem dX2_failureAt_7 : decode cX2_failureAt 7 = .ok (.iload 5, 2) := by decide +kernel
theorem dX2_failureAt_9 : decode cX2_failureAt 9 = .ok (.ifCond .eq 15, 3) := by decide +kernel
theorem dX2_failureAt_12 : decode cX2_failureAt 12 = .ok (.iload_n 3, 1) := by decide +kernel
theorem dX2_failureAt_13 : decode cX2_failureAt 13 = .ok (.aload_n 1, 1) := by decide +kernel
theorem dX2_failureAt_14 : decode cX2_failureAt 14 = .ok (.getfield 32, 3) := by decide +kernel
theorem dX2_failureAt_17 : decode cX2_failureAt 17 = .ok (.iconst 4, 1) := by decide +kernel
theorem dX2_failureAt_18 : decode cX2_failureAt 18 = .ok (.iaload, 1) := by decide +kernel
theorem dX2_failureAt_19 : decode cX2_failureAt 19 = .ok (.if_icmp .ge 5, 3) := by decide +kernel
theorem dX2_failureAt_22 : decode cX2_failureAt 22 = .ok (.iconst 2, 1) := by decide +kernel
theorem dX2_failureAt_23 : decode cX2_failureAt 23 = .ok (.ireturn, 1) := by decide +kernel
theorem dX2_failureAt_24 : decode cX2_failureAt 24 = .ok (.iload 5, 2) := by decide +kernel
theorem dX2_failureAt_26 : decode cX2_failureAt 26 = .ok (.ifCond .eq 16, 3) := by decide +kernel
theorem dX2_failureAt_29 : decode cX2_failureAt 29 = .ok (.iload_n 3, 1) := by decide +kernel
theorem dX2_failureAt_30 : decode cX2_failureAt 30 = .ok (.aload_n 1, 1) := by decide +kernel
theorem dX2_failureAt_31 : decode cX2_failureAt 31 = .ok (.getfield 32, 3) := by decide +kernel
theorem dX2_failureAt_34 : decode cX2_failureAt 34 = .ok (.iconst 3, 1) := by decide +kernel
theorem dX2_failureAt_35 : decode cX2_failureAt 35 = .ok (.iaload, 1) := by decide +kernel
theorem dX2_failureAt_36 : decode cX2_failureAt 36 = .ok (.invokestatic 52, 3) := by decide +kernel
theorem dX2_failureAt_39 : decode cX2_failureAt 39 = .ok (.goto 4, 3) := by decide +kernel
theorem dX2_failureAt_42 : decode cX2_failureAt 42 = .ok (.iload_n 3, 1) := by decide +kernel
theorem dX2_failureAt_43 : decode cX2_failureAt 43 = .ok (.istore 6, 2) := by decide +kernel
theorem dX2_failureAt_45 : decode cX2_failureAt 45 = .ok (.aload_n 0, 1) := by decide +kernel
theorem dX2_failureAt_46 : decode cX2_failureAt 46 = .ok (.getfield 23, 3) := by decide +kernel
theorem dX2_failureAt_49 : decode cX2_failureAt 49 = .ok (.iload_n 2, 1) := by decide +kernel
theorem dX2_failureAt_50 : decode cX2_failureAt 50 = .ok (.iload 6, 2) := by decide +kernel
theorem dX2_failureAt_52 : decode cX2_failureAt 52 = .ok (.iastore, 1) := by decide +kernel
theorem dX2_failureAt_53 : decode cX2_failureAt 53 = .ok (.iload_n 2, 1) := by decide +kernel
theorem dX2_failureAt_54 : decode cX2_failureAt 54 = .ok (.aload_n 1, 1) := by decide +kernel
theorem dX2_failureAt_55 : decode cX2_failureAt 55 = .ok (.getfield 37, 3) := by decide +kernel
theorem dX2_failureAt_58 : decode cX2_failureAt 58 = .ok (.if_icmp .ge 13, 3) := by decide +kernel
theorem dX2_failureAt_61 : decode cX2_failureAt 61 = .ok (.aload_n 1, 1) := by decide +kernel
theorem dX2_failureAt_62 : decode cX2_failureAt 62 = .ok (.iload_n 2, 1) := by decide +kernel
theorem dX2_failureAt_63 : decode cX2_failureAt 63 = .ok (.iload 6, 2) := by decide +kernel
theorem dX2_failureAt_65 : decode cX2_failureAt 65 = .ok (.iload 4, 2) := by decide +kernel
theorem dX2_failureAt_67 : decode cX2_failureAt 67 = .ok (.invokevirtual 57, 3) := by decide +kernel
theorem dX2_failureAt_70 : decode cX2_failureAt 70 = .ok (.ireturn, 1) := by decide +kernel
theorem dX2_failureAt_71 : decode cX2_failureAt 71 = .ok (.iload 6, 2) := by decide +kernel
theorem dX2_failureAt_73 : decode cX2_failureAt 73 = .ok (.aload_n 1, 1) := by decide +kernel
theorem dX2_failureAt_74 : decode cX2_failureAt 74 = .ok (.getfield 32, 3) := by decide +kernel
theorem dX2_failureAt_77 : decode cX2_failureAt 77 = .ok (.iconst 2, 1) := by decide +kernel
theorem dX2_failureAt_78 : decode cX2_failureAt 78 = .ok (.iaload, 1) := by decide +kernel
theorem dX2_failureAt_79 : decode cX2_failureAt 79 = .ok (.if_icmp .ge 7, 3) := by decide +kernel
theorem dX2_failureAt_82 : decode cX2_failureAt 82 = .ok (.iconst 5, 1) := by decide +kernel
theorem dX2_failureAt_83 : decode cX2_failureAt 83 = .ok (.goto 4, 3) := by decide +kernel
theorem dX2_failureAt_86 : decode cX2_failureAt 86 = .ok (.iconst 0, 1) := by decide +kernel
theorem dX2_failureAt_87 : decode cX2_failureAt 87 = .ok (.ireturn, 1) := by decide +kernel
theorem dX3_init_0 : decode cX3_init 0 = .ok (.aload_n 0, 1) := by decide +kernel
theorem dX3_init_1 : decode cX3_init 1 = .ok (.invokespecial 3, 3) := by decide +kernel
theorem dX3_init_4 : decode cX3_init 4 = .ok (.aload_n 0, 1) := by decide +kernel
theorem dX3_init_5 : decode cX3_init 5 = .ok (.iconst 0, 1) := by decide +kernel
theorem dX3_init_6 : decode cX3_init 6 = .ok (.putfield 9, 3) := by decide +kernel
theorem dX3_init_9 : decode cX3_init 9 = .ok (.aload_n 0, 1) := by decide +kernel
theorem dX3_init_10 : decode cX3_init 10 = .ok (.iconst 0, 1) := by decide +kernel
theorem dX3_init_11 : decode cX3_init 11 = .ok (.putfield 15, 3) := by decide +kernel
theorem dX3_init_14 : decode cX3_init 14 = .ok (.aload_n 0, 1) := by decide +kernel
theorem dX3_init_15 : decode cX3_init 15 = .ok (.iconst 0, 1) := by decide +kernel
theorem dX3_init_16 : decode cX3_init 16 = .ok (.putfield 18, 3) := by decide +kernel
theorem dX3_init_19 : decode cX3_init 19 = .ok (.aload_n 0, 1) := by decide +kernel
theorem dX3_init_20 : decode cX3_init 20 = .ok (.bipush 60, 2) := by decide +kernel
theorem dX3_init_22 : decode cX3_init 22 = .ok (.newarray .byte, 2) := by decide +kernel
theorem dX3_init_24 : decode cX3_init 24 = .ok (.putfield 21, 3) := by decide +kernel
theorem dX3_init_27 : decode cX3_init 27 = .ok (.aload_n 0, 1) := by decide +kernel
theorem dX3_init_28 : decode cX3_init 28 = .ok (.bipush 120, 2) := by decide +kernel
theorem dX3_init_30 : decode cX3_init 30 = .ok (.newarray .byte, 2) := by decide +kernel
theorem dX3_init_32 : decode cX3_init 32 = .ok (.putfield 25, 3) := by decide +kernel
theorem dX3_init_35 : decode cX3_init 35 = .ok (.aload_n 0, 1) := by decide +kernel
theorem dX3_init_36 : decode cX3_init 36 = .ok (.sipush 240, 3) := by decide +kernel
theorem dX3_init_39 : decode cX3_init 39 = .ok (.newarray .int, 2) := by decide +kernel
theorem dX3_init_41 : decode cX3_init 41 = .ok (.putfield 28, 3) := by decide +kernel
theorem dX3_init_44 : decode cX3_init 44 = .ok (.return_, 1) := by decide +kernel
theorem dX3_put_0 : decode cX3_put 0 = .ok (.aload_n 0, 1) := by decide +kernel
theorem dX3_put_1 : decode cX3_put 1 = .ok (.getfield 25, 3) := by decide +kernel
theorem dX3_put_4 : decode cX3_put 4 = .ok (.aload_n 0, 1) := by decide +kernel
theorem dX3_put_5 : decode cX3_put 5 = .ok (.getfield 9, 3) := by decide +kernel
theorem dX3_put_8 : decode cX3_put 8 = .ok (.iload_n 1, 1) := by decide +kernel
theorem dX3_put_9 : decode cX3_put 9 = .ok (.i2b, 1) := by decide +kernel
theorem dX3_put_10 : decode cX3_put 10 = .ok (.bastore, 1) := by decide +kernel
theorem dX3_put_11 : decode cX3_put 11 = .ok (.aload_n 0, 1) := by decide +kernel
theorem dX3_put_12 : decode cX3_put 12 = .ok (.dup, 1) := by decide +kernel
theorem dX3_put_13 : decode cX3_put 13 = .ok (.getfield 9, 3) := by decide +kernel
theorem dX3_put_16 : decode cX3_put 16 = .ok (.iconst 1, 1) := by decide +kernel
theorem dX3_put_17 : decode cX3_put 17 = .ok (.iadd, 1) := by decide +kernel
theorem dX3_put_18 : decode cX3_put 18 = .ok (.putfield 9, 3) := by decide +kernel
theorem dX3_put_21 : decode cX3_put 21 = .ok (.return_, 1) := by decide +kernel
theorem dX3_number_0 : decode cX3_number 0 = .ok (.aload_n 0, 1) := by decide +kernel
theorem dX3_number_1 : decode cX3_number 1 = .ok (.getfield 28, 3) := by decide +kernel
theorem dX3_number_4 : decode cX3_number 4 = .ok (.iload_n 1, 1) := by decide +kernel
theorem dX3_number_5 : decode cX3_number 5 = .ok (.iconst 4, 1) := by decide +kernel
theorem dX3_number_6 : decode cX3_number 6 = .ok (.imul, 1) := by decide +kernel
theorem dX3_number_7 : decode cX3_number 7 = .ok (.iload_n 2, 1) := by decide +kernel
theorem dX3_number_8 : decode cX3_number 8 = .ok (.iadd, 1) := by decide +kernel
theorem dX3_number_9 : decode cX3_number 9 = .ok (.iaload, 1) := by decide +kernel
theorem dX3_number_10 : decode cX3_number 10 = .ok (.ireturn, 1) := by decide +kernel
set_option maxRecDepth 20000 in
theorem ggX3_isRead_X3_skipBlanks : GoodIn wsX3_isRead wsX3_skipBlanks := goodIn_r _ [8, 2, 3, 9, 34, 35, 36, 37, 38, 39] (by decide +kernel) (by decide +kernel)
set_option maxRecDepth 20000 in
theorem gX3_isRead_X3_skipBlanks : GoodIn wsX3_isRead (wsV RX3 32 RX3 yX3_skipBlanks wsX3_skipBlanks) := goodIn_app (goodIn_of _ (by decide +kernel)) ggX3_isRead_X3_skipBlanks
set_option maxRecDepth 20000 in
theorem ggX3_isRead_X3_takesOrder : GoodIn wsX3_isRead wsX3_takesOrder := goodIn_r _ [13, 14, 1, 2, 15, 16, 17, 7, 18, 3, 9, 19, 20, 21, 4, 5, 6, 8, 22, 23, 24, 25, 26, 27, 28, 29, 30, 31, 32, 33, 34, 35, 36, 37, 38, 39] (by decide +kernel) (by decide +kernel)
set_option maxRecDepth 20000 in
theorem gX3_isRead_X3_takesOrder : GoodIn wsX3_isRead (wsV RX3 35 RX3 yX3_takesOrder wsX3_takesOrder) := goodIn_app (goodIn_of _ (by decide +kernel)) ggX3_isRead_X3_takesOrder
theorem dX3_isRead_0 : decode cX3_isRead 0 = .ok (.aload_n 0, 1) := by decide +kernel
theorem dX3_isRead_1 : decode cX3_isRead 1 = .ok (.iconst 0, 1) := by decide +kernel
theorem dX3_isRead_2 : decode cX3_isRead 2 = .ok (.putfield 15, 3) := by decide +kernel
theorem dX3_isRead_5 : decode cX3_isRead 5 = .ok (.aload_n 0, 1) := by decide +kernel
theorem dX3_isRead_6 : decode cX3_isRead 6 = .ok (.iconst 0, 1) := by decide +kernel
theorem dX3_isRead_7 : decode cX3_isRead 7 = .ok (.putfield 18, 3) := by decide +kernel
theorem dX3_isRead_10 : decode cX3_isRead 10 = .ok (.aload_n 0, 1) := by decide +kernel
theorem dX3_isRead_11 : decode cX3_isRead 11 = .ok (.invokevirtual 32, 3) := by decide +kernel
theorem dX3_isRead_14 : decode cX3_isRead 14 = .ok (.aload_n 0, 1) := by decide +kernel
theorem dX3_isRead_15 : decode cX3_isRead 15 = .ok (.getfield 18, 3) := by decide +kernel
theorem dX3_isRead_18 : decode cX3_isRead 18 = .ok (.aload_n 0, 1) := by decide +kernel
theorem dX3_isRead_19 : decode cX3_isRead 19 = .ok (.getfield 9, 3) := by decide +kernel
theorem dX3_isRead_22 : decode cX3_isRead 22 = .ok (.if_icmp .ge 38, 3) := by decide +kernel
theorem dX3_isRead_25 : decode cX3_isRead 25 = .ok (.aload_n 0, 1) := by decide +kernel
theorem dX3_isRead_26 : decode cX3_isRead 26 = .ok (.getfield 15, 3) := by decide +kernel
theorem dX3_isRead_29 : decode cX3_isRead 29 = .ok (.bipush 60, 2) := by decide +kernel
theorem dX3_isRead_31 : decode cX3_isRead 31 = .ok (.if_icmp .ge 29, 3) := by decide +kernel
theorem dX3_isRead_34 : decode cX3_isRead 34 = .ok (.aload_n 0, 1) := by decide +kernel
theorem dX3_isRead_35 : decode cX3_isRead 35 = .ok (.invokevirtual 35, 3) := by decide +kernel
theorem dX3_isRead_38 : decode cX3_isRead 38 = .ok (.ifCond .ne 5, 3) := by decide +kernel
theorem dX3_isRead_41 : decode cX3_isRead 41 = .ok (.iconst 0, 1) := by decide +kernel
theorem dX3_isRead_42 : decode cX3_isRead 42 = .ok (.ireturn, 1) := by decide +kernel
theorem dX3_isRead_43 : decode cX3_isRead 43 = .ok (.aload_n 0, 1) := by decide +kernel
theorem dX3_isRead_44 : decode cX3_isRead 44 = .ok (.dup, 1) := by decide +kernel
theorem dX3_isRead_45 : decode cX3_isRead 45 = .ok (.getfield 15, 3) := by decide +kernel
theorem dX3_isRead_48 : decode cX3_isRead 48 = .ok (.iconst 1, 1) := by decide +kernel
theorem dX3_isRead_49 : decode cX3_isRead 49 = .ok (.iadd, 1) := by decide +kernel
theorem dX3_isRead_50 : decode cX3_isRead 50 = .ok (.putfield 15, 3) := by decide +kernel
theorem dX3_isRead_53 : decode cX3_isRead 53 = .ok (.aload_n 0, 1) := by decide +kernel
theorem dX3_isRead_54 : decode cX3_isRead 54 = .ok (.invokevirtual 32, 3) := by decide +kernel
theorem dX3_isRead_57 : decode cX3_isRead 57 = .ok (.goto (-43), 3) := by decide +kernel
theorem dX3_isRead_60 : decode cX3_isRead 60 = .ok (.aload_n 0, 1) := by decide +kernel
theorem dX3_isRead_61 : decode cX3_isRead 61 = .ok (.getfield 15, 3) := by decide +kernel
theorem dX3_isRead_64 : decode cX3_isRead 64 = .ok (.ifCond .le 7, 3) := by decide +kernel
theorem dX3_isRead_67 : decode cX3_isRead 67 = .ok (.iconst 1, 1) := by decide +kernel
theorem dX3_isRead_68 : decode cX3_isRead 68 = .ok (.goto 4, 3) := by decide +kernel
theorem dX3_isRead_71 : decode cX3_isRead 71 = .ok (.iconst 0, 1) := by decide +kernel
theorem dX3_isRead_72 : decode cX3_isRead 72 = .ok (.ireturn, 1) := by decide +kernel
set_option maxRecDepth 20000 in
theorem ggX3_takesOrder_X3_byteHere : GoodIn wsX3_takesOrder wsX3_byteHere := goodIn_r _ [8, 3, 9, 10, 30, 31, 32, 33, 34, 35] (by decide +kernel) (by decide +kernel)
set_option maxRecDepth 20000 in
theorem gX3_takesOrder_X3_byteHere : GoodIn wsX3_takesOrder (wsV RX3 39 RX3 yX3_byteHere wsX3_byteHere) := goodIn_app (goodIn_of _ (by decide +kernel)) ggX3_takesOrder_X3_byteHere
set_option maxRecDepth 20000 in
theorem ggX3_takesOrder_X3_numbersOf : GoodIn wsX3_takesOrder wsX3_numbersOf := goodIn_r _ [13] (by decide +kernel) (by decide +kernel)
set_option maxRecDepth 20000 in
theorem gX3_takesOrder_X3_numbersOf : GoodIn wsX3_takesOrder (va_wsS RX3 43 yX3_numbersOf wsX3_numbersOf) := goodIn_app (goodIn_of _ (by decide +kernel)) ggX3_takesOrder_X3_numbersOf
set_option maxRecDepth 20000 in
theorem ggX3_takesOrder_X3_skipBlanks : GoodIn wsX3_takesOrder wsX3_skipBlanks := goodIn_r _ [17, 3, 9, 10, 30, 31, 32, 33, 34, 35] (by decide +kernel) (by decide +kernel)
set_option maxRecDepth 20000 in
theorem gX3_takesOrder_X3_skipBlanks : GoodIn wsX3_takesOrder (wsV RX3 32 RX3 yX3_skipBlanks wsX3_skipBlanks) := goodIn_app (goodIn_of _ (by decide +kernel)) ggX3_takesOrder_X3_skipBlanks
set_option maxRecDepth 20000 in
theorem ggX3_takesOrder_X3_takesNumber : GoodIn wsX3_takesOrder wsX3_takesNumber := goodIn_r _ [21, 3, 22, 2, 4, 5, 6, 7, 8, 9, 10, 23, 24, 25, 26, 27, 28, 29, 30, 31, 32, 33, 34, 35] (by decide +kernel) (by decide +kernel)
set_option maxRecDepth 20000 in
theorem gX3_takesOrder_X3_takesNumber : GoodIn wsX3_takesOrder (wsV RX3 47 RX3 yX3_takesNumber wsX3_takesNumber) := goodIn_app (goodIn_of _ (by decide +kernel)) ggX3_takesOrder_X3_takesNumber
theorem dX3_takesOrder_0 : decode cX3_takesOrder 0 = .ok (.aload_n 0, 1) := by decide +kernel
theorem dX3_takesOrder_1 : decode cX3_takesOrder 1 = .ok (.invokevirtual 39, 3) := by decide +kernel
theorem dX3_takesOrder_4 : decode cX3_takesOrder 4 = .ok (.istore_n 1, 1) := by decide +kernel
theorem dX3_takesOrder_5 : decode cX3_takesOrder 5 = .ok (.iload_n 1, 1) := by decide +kernel
theorem dX3_takesOrder_6 : decode cX3_takesOrder 6 = .ok (.invokestatic 43, 3) := by decide +kernel
theorem dX3_takesOrder_9 : decode cX3_takesOrder 9 = .ok (.istore_n 2, 1) := by decide +kernel
theorem dX3_takesOrder_10 : decode cX3_takesOrder 10 = .ok (.iload_n 2, 1) := by decide +kernel
theorem dX3_takesOrder_11 : decode cX3_takesOrder 11 = .ok (.ifCond .ge 5, 3) := by decide +kernel
theorem dX3_takesOrder_14 : decode cX3_takesOrder 14 = .ok (.iconst 0, 1) := by decide +kernel
theorem dX3_takesOrder_15 : decode cX3_takesOrder 15 = .ok (.ireturn, 1) := by decide +kernel
theorem dX3_takesOrder_16 : decode cX3_takesOrder 16 = .ok (.aload_n 0, 1) := by decide +kernel
theorem dX3_takesOrder_17 : decode cX3_takesOrder 17 = .ok (.getfield 21, 3) := by decide +kernel
theorem dX3_takesOrder_20 : decode cX3_takesOrder 20 = .ok (.aload_n 0, 1) := by decide +kernel
theorem dX3_takesOrder_21 : decode cX3_takesOrder 21 = .ok (.getfield 15, 3) := by decide +kernel
theorem dX3_takesOrder_24 : decode cX3_takesOrder 24 = .ok (.iload_n 1, 1) := by decide +kernel
theorem dX3_takesOrder_25 : decode cX3_takesOrder 25 = .ok (.i2b, 1) := by decide +kernel
theorem dX3_takesOrder_26 : decode cX3_takesOrder 26 = .ok (.bastore, 1) := by decide +kernel
theorem dX3_takesOrder_27 : decode cX3_takesOrder 27 = .ok (.aload_n 0, 1) := by decide +kernel
theorem dX3_takesOrder_28 : decode cX3_takesOrder 28 = .ok (.dup, 1) := by decide +kernel
theorem dX3_takesOrder_29 : decode cX3_takesOrder 29 = .ok (.getfield 18, 3) := by decide +kernel
theorem dX3_takesOrder_32 : decode cX3_takesOrder 32 = .ok (.iconst 1, 1) := by decide +kernel
theorem dX3_takesOrder_33 : decode cX3_takesOrder 33 = .ok (.iadd, 1) := by decide +kernel
theorem dX3_takesOrder_34 : decode cX3_takesOrder 34 = .ok (.putfield 18, 3) := by decide +kernel
theorem dX3_takesOrder_37 : decode cX3_takesOrder 37 = .ok (.iconst 0, 1) := by decide +kernel
theorem dX3_takesOrder_38 : decode cX3_takesOrder 38 = .ok (.istore_n 3, 1) := by decide +kernel
theorem dX3_takesOrder_39 : decode cX3_takesOrder 39 = .ok (.iload_n 3, 1) := by decide +kernel
theorem dX3_takesOrder_40 : decode cX3_takesOrder 40 = .ok (.iload_n 2, 1) := by decide +kernel
theorem dX3_takesOrder_41 : decode cX3_takesOrder 41 = .ok (.if_icmp .ge 39, 3) := by decide +kernel
theorem dX3_takesOrder_44 : decode cX3_takesOrder 44 = .ok (.aload_n 0, 1) := by decide +kernel
theorem dX3_takesOrder_45 : decode cX3_takesOrder 45 = .ok (.invokevirtual 32, 3) := by decide +kernel
theorem dX3_takesOrder_48 : decode cX3_takesOrder 48 = .ok (.aload_n 0, 1) := by decide +kernel
theorem dX3_takesOrder_49 : decode cX3_takesOrder 49 = .ok (.iload_n 3, 1) := by decide +kernel
theorem dX3_takesOrder_50 : decode cX3_takesOrder 50 = .ok (.iload_n 1, 1) := by decide +kernel
theorem dX3_takesOrder_51 : decode cX3_takesOrder 51 = .ok (.bipush 104, 2) := by decide +kernel
theorem dX3_takesOrder_53 : decode cX3_takesOrder 53 = .ok (.if_icmp .ne 12, 3) := by decide +kernel
theorem dX3_takesOrder_56 : decode cX3_takesOrder 56 = .ok (.iload_n 3, 1) := by decide +kernel
theorem dX3_takesOrder_57 : decode cX3_takesOrder 57 = .ok (.iconst 2, 1) := by decide +kernel
theorem dX3_takesOrder_58 : decode cX3_takesOrder 58 = .ok (.if_icmp .ne 7, 3) := by decide +kernel
theorem dX3_takesOrder_61 : decode cX3_takesOrder 61 = .ok (.iconst 1, 1) := by decide +kernel
theorem dX3_takesOrder_62 : decode cX3_takesOrder 62 = .ok (.goto 4, 3) := by decide +kernel
theorem dX3_takesOrder_65 : decode cX3_takesOrder 65 = .ok (.iconst 0, 1) := by decide +kernel
theorem dX3_takesOrder_66 : decode cX3_takesOrder 66 = .ok (.invokevirtual 47, 3) := by decide +kernel
theorem dX3_takesOrder_69 : decode cX3_takesOrder 69 = .ok (.ifCond .ne 5, 3) := by decide +kernel
theorem dX3_takesOrder_72 : decode cX3_takesOrder 72 = .ok (.iconst 0, 1) := by decide +kernel
theorem dX3_takesOrder_73 : decode cX3_takesOrder 73 = .ok (.ireturn, 1) := by decide +kernel
theorem dX3_takesOrder_74 : decode cX3_takesOrder 74 = .ok (.iinc 3 1, 3) := by decide +kernel
theorem dX3_takesOrder_77 : decode cX3_takesOrder 77 = .ok (.goto (-38), 3) := by decide +kernel
theorem dX3_takesOrder_80 : decode cX3_takesOrder 80 = .ok (.aload_n 0, 1) := by decide +kernel
theorem dX3_takesOrder_81 : decode cX3_takesOrder 81 = .ok (.invokevirtual 32, 3) := by decide +kernel
theorem dX3_takesOrder_84 : decode cX3_takesOrder 84 = .ok (.aload_n 0, 1) := by decide +kernel
theorem dX3_takesOrder_85 : decode cX3_takesOrder 85 = .ok (.invokevirtual 39, 3) := by decide +kernel
theorem dX3_takesOrder_88 : decode cX3_takesOrder 88 = .ok (.bipush 59, 2) := by decide +kernel
theorem dX3_takesOrder_90 : decode cX3_takesOrder 90 = .ok (.if_icmp .eq 5, 3) := by decide +kernel
theorem dX3_takesOrder_93 : decode cX3_takesOrder 93 = .ok (.iconst 0, 1) := by decide +kernel
theorem dX3_takesOrder_94 : decode cX3_takesOrder 94 = .ok (.ireturn, 1) := by decide +kernel
theorem dX3_takesOrder_95 : decode cX3_takesOrder 95 = .ok (.aload_n 0, 1) := by decide +kernel
theorem dX3_takesOrder_96 : decode cX3_takesOrder 96 = .ok (.dup, 1) := by decide +kernel
theorem dX3_takesOrder_97 : decode cX3_takesOrder 97 = .ok (.getfield 18, 3) := by decide +kernel
theorem dX3_takesOrder_100 : decode cX3_takesOrder 100 = .ok (.iconst 1, 1) := by decide +kernel
theorem dX3_takesOrder_101 : decode cX3_takesOrder 101 = .ok (.iadd, 1) := by decide +kernel
theorem dX3_takesOrder_102 : decode cX3_takesOrder 102 = .ok (.putfield 18, 3) := by decide +kernel
theorem dX3_takesOrder_105 : decode cX3_takesOrder 105 = .ok (.iconst 1, 1) := by decide +kernel
theorem dX3_takesOrder_106 : decode cX3_takesOrder 106 = .ok (.ireturn, 1) := by decide +kernel
theorem dX3_numbersOf_0 : decode cX3_numbersOf 0 = .ok (.iload_n 0, 1) := by decide +kernel
theorem dX3_numbersOf_1 : decode cX3_numbersOf 1 = .ok (.lookupswitch 67 #[(99, 65), (104, 59), (107, 61), (109, 63), (112, 63), (120, 63)], 59) := by decide +kernel
theorem dX3_numbersOf_60 : decode cX3_numbersOf 60 = .ok (.iconst 4, 1) := by decide +kernel
theorem dX3_numbersOf_61 : decode cX3_numbersOf 61 = .ok (.ireturn, 1) := by decide +kernel
theorem dX3_numbersOf_62 : decode cX3_numbersOf 62 = .ok (.iconst 2, 1) := by decide +kernel
theorem dX3_numbersOf_63 : decode cX3_numbersOf 63 = .ok (.ireturn, 1) := by decide +kernel
theorem dX3_numbersOf_64 : decode cX3_numbersOf 64 = .ok (.iconst 1, 1) := by decide +kernel
theorem dX3_numbersOf_65 : decode cX3_numbersOf 65 = .ok (.ireturn, 1) := by decide +kernel
theorem dX3_numbersOf_66 : decode cX3_numbersOf 66 = .ok (.iconst 0, 1) := by decide +kernel
theorem dX3_numbersOf_67 : decode cX3_numbersOf 67 = .ok (.ireturn, 1) := by decide +kernel
theorem dX3_numbersOf_68 : decode cX3_numbersOf 68 = .ok (.iconst (-1), 1) := by decide +kernel
theorem dX3_numbersOf_69 : decode cX3_numbersOf 69 = .ok (.ireturn, 1) := by decide +kernel
set_option maxRecDepth 20000 in
theorem ggX3_takesNumber_X3_byteHere : GoodIn wsX3_takesNumber wsX3_byteHere := goodIn_r _ [8, 1, 9, 10, 18, 19, 20, 21, 22, 23] (by decide +kernel) (by decide +kernel)
set_option maxRecDepth 20000 in
theorem gX3_takesNumber_X3_byteHere : GoodIn wsX3_takesNumber (wsV RX3 39 RX3 yX3_byteHere wsX3_byteHere) := goodIn_app (goodIn_of _ (by decide +kernel)) ggX3_takesNumber_X3_byteHere
set_option maxRecDepth 20000 in
theorem ggX3_takesNumber_X3_isFigureHere : GoodIn wsX3_takesNumber wsX3_isFigureHere := goodIn_r _ [14, 4, 5, 6, 7, 8, 1, 9, 10, 15, 16, 17, 18, 19, 20, 21, 22, 23] (by decide +kernel) (by decide +kernel)
set_option maxRecDepth 20000 in
theorem gX3_takesNumber_X3_isFigureHere : GoodIn wsX3_takesNumber (wsV RX3 51 RX3 yX3_isFigureHere wsX3_isFigureHere) := goodIn_app (goodIn_of _ (by decide +kernel)) ggX3_takesNumber_X3_isFigureHere
theorem dX3_takesNumber_0 : decode cX3_takesNumber 0 = .ok (.iload_n 2, 1) := by decide +kernel
theorem dX3_takesNumber_1 : decode cX3_takesNumber 1 = .ok (.ifCond .eq 16, 3) := by decide +kernel
theorem dX3_takesNumber_4 : decode cX3_takesNumber 4 = .ok (.aload_n 0, 1) := by decide +kernel
theorem dX3_takesNumber_5 : decode cX3_takesNumber 5 = .ok (.invokevirtual 39, 3) := by decide +kernel
theorem dX3_takesNumber_8 : decode cX3_takesNumber 8 = .ok (.bipush 45, 2) := by decide +kernel
theorem dX3_takesNumber_10 : decode cX3_takesNumber 10 = .ok (.if_icmp .ne 7, 3) := by decide +kernel
theorem dX3_takesNumber_13 : decode cX3_takesNumber 13 = .ok (.iconst 1, 1) := by decide +kernel
theorem dX3_takesNumber_14 : decode cX3_takesNumber 14 = .ok (.goto 4, 3) := by decide +kernel
theorem dX3_takesNumber_17 : decode cX3_takesNumber 17 = .ok (.iconst 0, 1) := by decide +kernel
theorem dX3_takesNumber_18 : decode cX3_takesNumber 18 = .ok (.istore_n 3, 1) := by decide +kernel
theorem dX3_takesNumber_19 : decode cX3_takesNumber 19 = .ok (.iload_n 3, 1) := by decide +kernel
theorem dX3_takesNumber_20 : decode cX3_takesNumber 20 = .ok (.ifCond .eq 13, 3) := by decide +kernel
theorem dX3_takesNumber_23 : decode cX3_takesNumber 23 = .ok (.aload_n 0, 1) := by decide +kernel
theorem dX3_takesNumber_24 : decode cX3_takesNumber 24 = .ok (.dup, 1) := by decide +kernel
theorem dX3_takesNumber_25 : decode cX3_takesNumber 25 = .ok (.getfield 18, 3) := by decide +kernel
theorem dX3_takesNumber_28 : decode cX3_takesNumber 28 = .ok (.iconst 1, 1) := by decide +kernel
theorem dX3_takesNumber_29 : decode cX3_takesNumber 29 = .ok (.iadd, 1) := by decide +kernel
theorem dX3_takesNumber_30 : decode cX3_takesNumber 30 = .ok (.putfield 18, 3) := by decide +kernel
theorem dX3_takesNumber_33 : decode cX3_takesNumber 33 = .ok (.aload_n 0, 1) := by decide +kernel
theorem dX3_takesNumber_34 : decode cX3_takesNumber 34 = .ok (.invokevirtual 51, 3) := by decide +kernel
theorem dX3_takesNumber_37 : decode cX3_takesNumber 37 = .ok (.ifCond .ne 5, 3) := by decide +kernel
theorem dX3_takesNumber_40 : decode cX3_takesNumber 40 = .ok (.iconst 0, 1) := by decide +kernel
theorem dX3_takesNumber_41 : decode cX3_takesNumber 41 = .ok (.ireturn, 1) := by decide +kernel
theorem dX3_takesNumber_42 : decode cX3_takesNumber 42 = .ok (.iconst 0, 1) := by decide +kernel
theorem dX3_takesNumber_43 : decode cX3_takesNumber 43 = .ok (.istore 4, 2) := by decide +kernel
theorem dX3_takesNumber_45 : decode cX3_takesNumber 45 = .ok (.iconst 0, 1) := by decide +kernel
theorem dX3_takesNumber_46 : decode cX3_takesNumber 46 = .ok (.istore 5, 2) := by decide +kernel
theorem dX3_takesNumber_48 : decode cX3_takesNumber 48 = .ok (.iload 5, 2) := by decide +kernel
theorem dX3_takesNumber_50 : decode cX3_takesNumber 50 = .ok (.iconst 3, 1) := by decide +kernel
theorem dX3_takesNumber_51 : decode cX3_takesNumber 51 = .ok (.if_icmp .ge 41, 3) := by decide +kernel
theorem dX3_takesNumber_54 : decode cX3_takesNumber 54 = .ok (.aload_n 0, 1) := by decide +kernel
theorem dX3_takesNumber_55 : decode cX3_takesNumber 55 = .ok (.invokevirtual 51, 3) := by decide +kernel
theorem dX3_takesNumber_58 : decode cX3_takesNumber 58 = .ok (.ifCond .eq 34, 3) := by decide +kernel
theorem dX3_takesNumber_61 : decode cX3_takesNumber 61 = .ok (.bipush 10, 2) := by decide +kernel
theorem dX3_takesNumber_63 : decode cX3_takesNumber 63 = .ok (.iload 4, 2) := by decide +kernel
theorem dX3_takesNumber_65 : decode cX3_takesNumber 65 = .ok (.imul, 1) := by decide +kernel
theorem dX3_takesNumber_66 : decode cX3_takesNumber 66 = .ok (.aload_n 0, 1) := by decide +kernel
theorem dX3_takesNumber_67 : decode cX3_takesNumber 67 = .ok (.invokevirtual 39, 3) := by decide +kernel
theorem dX3_takesNumber_70 : decode cX3_takesNumber 70 = .ok (.iadd, 1) := by decide +kernel
theorem dX3_takesNumber_71 : decode cX3_takesNumber 71 = .ok (.bipush 48, 2) := by decide +kernel
theorem dX3_takesNumber_73 : decode cX3_takesNumber 73 = .ok (.isub, 1) := by decide +kernel
theorem dX3_takesNumber_74 : decode cX3_takesNumber 74 = .ok (.istore 4, 2) := by decide +kernel
theorem dX3_takesNumber_76 : decode cX3_takesNumber 76 = .ok (.aload_n 0, 1) := by decide +kernel
theorem dX3_takesNumber_77 : decode cX3_takesNumber 77 = .ok (.dup, 1) := by decide +kernel
theorem dX3_takesNumber_78 : decode cX3_takesNumber 78 = .ok (.getfield 18, 3) := by decide +kernel
theorem dX3_takesNumber_81 : decode cX3_takesNumber 81 = .ok (.iconst 1, 1) := by decide +kernel
theorem dX3_takesNumber_82 : decode cX3_takesNumber 82 = .ok (.iadd, 1) := by decide +kernel
theorem dX3_takesNumber_83 : decode cX3_takesNumber 83 = .ok (.putfield 18, 3) := by decide +kernel
theorem dX3_takesNumber_86 : decode cX3_takesNumber 86 = .ok (.iinc 5 1, 3) := by decide +kernel
theorem dX3_takesNumber_89 : decode cX3_takesNumber 89 = .ok (.goto (-41), 3) := by decide +kernel
theorem dX3_takesNumber_92 : decode cX3_takesNumber 92 = .ok (.aload_n 0, 1) := by decide +kernel
theorem dX3_takesNumber_93 : decode cX3_takesNumber 93 = .ok (.getfield 28, 3) := by decide +kernel
theorem dX3_takesNumber_96 : decode cX3_takesNumber 96 = .ok (.aload_n 0, 1) := by decide +kernel
theorem dX3_takesNumber_97 : decode cX3_takesNumber 97 = .ok (.getfield 15, 3) := by decide +kernel
theorem dX3_takesNumber_100 : decode cX3_takesNumber 100 = .ok (.iconst 4, 1) := by decide +kernel
theorem dX3_takesNumber_101 : decode cX3_takesNumber 101 = .ok (.imul, 1) := by decide +kernel
theorem dX3_takesNumber_102 : decode cX3_takesNumber 102 = .ok (.iload_n 1, 1) := by decide +kernel
theorem dX3_takesNumber_103 : decode cX3_takesNumber 103 = .ok (.iadd, 1) := by decide +kernel
theorem dX3_takesNumber_104 : decode cX3_takesNumber 104 = .ok (.iload_n 3, 1) := by decide +kernel
theorem dX3_takesNumber_105 : decode cX3_takesNumber 105 = .ok (.ifCond .eq 9, 3) := by decide +kernel
theorem dX3_takesNumber_108 : decode cX3_takesNumber 108 = .ok (.iload 4, 2) := by decide +kernel
theorem dX3_takesNumber_110 : decode cX3_takesNumber 110 = .ok (.ineg, 1) := by decide +kernel
theorem dX3_takesNumber_111 : decode cX3_takesNumber 111 = .ok (.goto 5, 3) := by decide +kernel
theorem dX3_takesNumber_114 : decode cX3_takesNumber 114 = .ok (.iload 4, 2) := by decide +kernel
theorem dX3_takesNumber_116 : decode cX3_takesNumber 116 = .ok (.iastore, 1) := by decide +kernel
theorem dX3_takesNumber_117 : decode cX3_takesNumber 117 = .ok (.aload_n 0, 1) := by decide +kernel
theorem dX3_takesNumber_118 : decode cX3_takesNumber 118 = .ok (.invokevirtual 51, 3) := by decide +kernel
theorem dX3_takesNumber_121 : decode cX3_takesNumber 121 = .ok (.ifCond .ne 7, 3) := by decide +kernel
theorem dX3_takesNumber_124 : decode cX3_takesNumber 124 = .ok (.iconst 1, 1) := by decide +kernel
theorem dX3_takesNumber_125 : decode cX3_takesNumber 125 = .ok (.goto 4, 3) := by decide +kernel
theorem dX3_takesNumber_128 : decode cX3_takesNumber 128 = .ok (.iconst 0, 1) := by decide +kernel
theorem dX3_takesNumber_129 : decode cX3_takesNumber 129 = .ok (.ireturn, 1) := by decide +kernel
set_option maxRecDepth 20000 in
theorem ggX3_isFigureHere_X3_byteHere : GoodIn wsX3_isFigureHere wsX3_byteHere := goodIn_r _ [5, 6, 7, 8, 12, 13, 14, 15, 16, 17] (by decide +kernel) (by decide +kernel)
set_option maxRecDepth 20000 in
theorem gX3_isFigureHere_X3_byteHere : GoodIn wsX3_isFigureHere (wsV RX3 39 RX3 yX3_byteHere wsX3_byteHere) := goodIn_app (goodIn_of _ (by decide +kernel)) ggX3_isFigureHere_X3_byteHere
set_option maxRecDepth 20000 in
theorem ggX3_isFigureHere_X4_within : GoodIn wsX3_isFigureHere wsX4_within := goodIn_r _ [11] (by decide +kernel) (by decide +kernel)
set_option maxRecDepth 20000 in
theorem gX3_isFigureHere_X4_within_n54 : GoodIn wsX3_isFigureHere (wsX4_within) := ggX3_isFigureHere_X4_within
theorem dX3_isFigureHere_0 : decode cX3_isFigureHere 0 = .ok (.aload_n 0, 1) := by decide +kernel
theorem dX3_isFigureHere_1 : decode cX3_isFigureHere 1 = .ok (.invokevirtual 39, 3) := by decide +kernel
theorem dX3_isFigureHere_4 : decode cX3_isFigureHere 4 = .ok (.bipush 48, 2) := by decide +kernel
theorem dX3_isFigureHere_6 : decode cX3_isFigureHere 6 = .ok (.bipush 57, 2) := by decide +kernel
theorem dX3_isFigureHere_8 : decode cX3_isFigureHere 8 = .ok (.invokestatic 54, 3) := by decide +kernel
theorem dX3_isFigureHere_11 : decode cX3_isFigureHere 11 = .ok (.ireturn, 1) := by decide +kernel
theorem dX3_byteHere_0 : decode cX3_byteHere 0 = .ok (.aload_n 0, 1) := by decide +kernel
theorem dX3_byteHere_1 : decode cX3_byteHere 1 = .ok (.getfield 18, 3) := by decide +kernel
theorem dX3_byteHere_4 : decode cX3_byteHere 4 = .ok (.aload_n 0, 1) := by decide +kernel
theorem dX3_byteHere_5 : decode cX3_byteHere 5 = .ok (.getfield 9, 3) := by decide +kernel
theorem dX3_byteHere_8 : decode cX3_byteHere 8 = .ok (.if_icmp .ge 15, 3) := by decide +kernel
theorem dX3_byteHere_11 : decode cX3_byteHere 11 = .ok (.aload_n 0, 1) := by decide +kernel
theorem dX3_byteHere_12 : decode cX3_byteHere 12 = .ok (.getfield 25, 3) := by decide +kernel
theorem dX3_byteHere_15 : decode cX3_byteHere 15 = .ok (.aload_n 0, 1) := by decide +kernel
theorem dX3_byteHere_16 : decode cX3_byteHere 16 = .ok (.getfield 18, 3) := by decide +kernel
theorem dX3_byteHere_19 : decode cX3_byteHere 19 = .ok (.baload, 1) := by decide +kernel
theorem dX3_byteHere_20 : decode cX3_byteHere 20 = .ok (.goto 4, 3) := by decide +kernel
theorem dX3_byteHere_23 : decode cX3_byteHere 23 = .ok (.iconst (-1), 1) := by decide +kernel
theorem dX3_byteHere_24 : decode cX3_byteHere 24 = .ok (.ireturn, 1) := by decide +kernel
theorem dX3_skipBlanks_0 : decode cX3_skipBlanks 0 = .ok (.aload_n 0, 1) := by decide +kernel
theorem dX3_skipBlanks_1 : decode cX3_skipBlanks 1 = .ok (.getfield 18, 3) := by decide +kernel
theorem dX3_skipBlanks_4 : decode cX3_skipBlanks 4 = .ok (.aload_n 0, 1) := by decide +kernel
theorem dX3_skipBlanks_5 : decode cX3_skipBlanks 5 = .ok (.getfield 9, 3) := by decide +kernel
theorem dX3_skipBlanks_8 : decode cX3_skipBlanks 8 = .ok (.if_icmp .ge 30, 3) := by decide +kernel
end
section
theorem dX3_skipBlanks_11 : decode cX3_skipBlanks 11 = .ok (.aload_n 0, 1) := by decide +kernel
theorem dX3_skipBlanks_12 : decode cX3_skipBlanks 12 = .ok (.getfield 25, 3) := by decide +kernel
theorem dX3_skipBlanks_15 : decode cX3_skipBlanks 15 = .ok (.aload_n 0, 1) := by decide +kernel
theorem dX3_skipBlanks_16 : decode cX3_skipBlanks 16 = .ok (.getfield 18, 3) := by decide +kernel
theorem dX3_skipBlanks_19 : decode cX3_skipBlanks 19 = .ok (.baload, 1) := by decide +kernel
theorem dX3_skipBlanks_20 : decode cX3_skipBlanks 20 = .ok (.bipush 32, 2) := by decide +kernel
theorem dX3_skipBlanks_22 : decode cX3_skipBlanks 22 = .ok (.if_icmp .ne 16, 3) := by decide +kernel
theorem dX3_skipBlanks_25 : decode cX3_skipBlanks 25 = .ok (.aload_n 0, 1) := by decide +kernel
theorem dX3_skipBlanks_26 : decode cX3_skipBlanks 26 = .ok (.dup, 1) := by decide +kernel
theorem dX3_skipBlanks_27 : decode cX3_skipBlanks 27 = .ok (.getfield 18, 3) := by decide +kernel
theorem dX3_skipBlanks_30 : decode cX3_skipBlanks 30 = .ok (.iconst 1, 1) := by decide +kernel
theorem dX3_skipBlanks_31 : decode cX3_skipBlanks 31 = .ok (.iadd, 1) := by decide +kernel
theorem dX3_skipBlanks_32 : decode cX3_skipBlanks 32 = .ok (.putfield 18, 3) := by decide +kernel
theorem dX3_skipBlanks_35 : decode cX3_skipBlanks 35 = .ok (.goto (-35), 3) := by decide +kernel
theorem dX3_skipBlanks_38 : decode cX3_skipBlanks 38 = .ok (.return_, 1) := by decide +kernel
set_option maxRecDepth 20000 in
theorem ggX4_init_X0_init : GoodIn wsX4_init wsX0_init := goodIn_r _ [29, 30, 2, 3, 31, 32, 33, 34, 35, 36, 37, 38, 39, 62, 63, 64, 65] (by decide +kernel) (by decide +kernel)
set_option maxRecDepth 20000 in
theorem gX4_init_X0_init : GoodIn wsX4_init (wsX0_init) := ggX4_init_X0_init
set_option maxRecDepth 20000 in
theorem ggX4_init_X3_init : GoodIn wsX4_init wsX3_init := goodIn_r _ [41, 42, 2, 3, 43, 44, 45, 46, 47, 48, 33, 49, 77, 78, 79, 80, 81, 82] (by decide +kernel) (by decide +kernel)
set_option maxRecDepth 20000 in
theorem gX4_init_X3_init_n41 : GoodIn wsX4_init (wsX3_init) := ggX4_init_X3_init
set_option maxRecDepth 20000 in
theorem ggX4_init_X2_init : GoodIn wsX4_init wsX2_init := goodIn_r _ [51, 52, 2, 3, 53, 54, 55, 33, 56, 57, 83, 84, 85, 86] (by decide +kernel) (by decide +kernel)
set_option maxRecDepth 20000 in
theorem gX4_init_X2_init_n48 : GoodIn wsX4_init (wsX2_init) := ggX4_init_X2_init
set_option maxRecDepth 20000 in
theorem ggX4_init_X1_init : GoodIn wsX4_init wsX1_init := goodIn_r _ [59, 60, 2, 3, 33, 61, 87] (by decide +kernel) (by decide +kernel)
set_option maxRecDepth 20000 in
theorem gX4_init_X1_init_n55 : GoodIn wsX4_init (wsX1_init) := ggX4_init_X1_init
theorem dX4_init_0 : decode cX4_init 0 = .ok (.aload_n 0, 1) := by decide +kernel
theorem dX4_init_1 : decode cX4_init 1 = .ok (.invokespecial 3, 3) := by decide +kernel
theorem dX4_init_4 : decode cX4_init 4 = .ok (.aload_n 0, 1) := by decide +kernel
theorem dX4_init_5 : decode cX4_init 5 = .ok (.new 9, 3) := by decide +kernel
theorem dX4_init_8 : decode cX4_init 8 = .ok (.dup, 1) := by decide +kernel
theorem dX4_init_9 : decode cX4_init 9 = .ok (.invokespecial 11, 3) := by decide +kernel
theorem dX4_init_12 : decode cX4_init 12 = .ok (.putfield 12, 3) := by decide +kernel
theorem dX4_init_15 : decode cX4_init 15 = .ok (.aload_n 0, 1) := by decide +kernel
theorem dX4_init_16 : decode cX4_init 16 = .ok (.new 9, 3) := by decide +kernel
theorem dX4_init_19 : decode cX4_init 19 = .ok (.dup, 1) := by decide +kernel
theorem dX4_init_20 : decode cX4_init 20 = .ok (.invokespecial 11, 3) := by decide +kernel
theorem dX4_init_23 : decode cX4_init 23 = .ok (.putfield 16, 3) := by decide +kernel
theorem dX4_init_26 : decode cX4_init 26 = .ok (.aload_n 0, 1) := by decide +kernel
theorem dX4_init_27 : decode cX4_init 27 = .ok (.iconst 5, 1) := by decide +kernel
theorem dX4_init_28 : decode cX4_init 28 = .ok (.anewarray 9, 3) := by decide +kernel
theorem dX4_init_31 : decode cX4_init 31 = .ok (.putfield 19, 3) := by decide +kernel
theorem dX4_init_34 : decode cX4_init 34 = .ok (.aload_n 0, 1) := by decide +kernel
theorem dX4_init_35 : decode cX4_init 35 = .ok (.iconst 0, 1) := by decide +kernel
theorem dX4_init_36 : decode cX4_init 36 = .ok (.putfield 23, 3) := by decide +kernel
theorem dX4_init_39 : decode cX4_init 39 = .ok (.aload_n 0, 1) := by decide +kernel
theorem dX4_init_40 : decode cX4_init 40 = .ok (.iconst 0, 1) := by decide +kernel
theorem dX4_init_41 : decode cX4_init 41 = .ok (.putfield 27, 3) := by decide +kernel
theorem dX4_init_44 : decode cX4_init 44 = .ok (.aload_n 0, 1) := by decide +kernel
theorem dX4_init_45 : decode cX4_init 45 = .ok (.iconst 0, 1) := by decide +kernel
theorem dX4_init_46 : decode cX4_init 46 = .ok (.putfield 30, 3) := by decide +kernel
theorem dX4_init_49 : decode cX4_init 49 = .ok (.aload_n 0, 1) := by decide +kernel
theorem dX4_init_50 : decode cX4_init 50 = .ok (.iconst 0, 1) := by decide +kernel
theorem dX4_init_51 : decode cX4_init 51 = .ok (.putfield 33, 3) := by decide +kernel
theorem dX4_init_54 : decode cX4_init 54 = .ok (.aload_n 0, 1) := by decide +kernel
theorem dX4_init_55 : decode cX4_init 55 = .ok (.iconst 0, 1) := by decide +kernel
theorem dX4_init_56 : decode cX4_init 56 = .ok (.putfield 36, 3) := by decide +kernel
theorem dX4_init_59 : decode cX4_init 59 = .ok (.aload_n 0, 1) := by decide +kernel
theorem dX4_init_60 : decode cX4_init 60 = .ok (.new 39, 3) := by decide +kernel
theorem dX4_init_63 : decode cX4_init 63 = .ok (.dup, 1) := by decide +kernel
theorem dX4_init_64 : decode cX4_init 64 = .ok (.invokespecial 41, 3) := by decide +kernel
theorem dX4_init_67 : decode cX4_init 67 = .ok (.putfield 42, 3) := by decide +kernel
theorem dX4_init_70 : decode cX4_init 70 = .ok (.aload_n 0, 1) := by decide +kernel
theorem dX4_init_71 : decode cX4_init 71 = .ok (.new 46, 3) := by decide +kernel
theorem dX4_init_74 : decode cX4_init 74 = .ok (.dup, 1) := by decide +kernel
theorem dX4_init_75 : decode cX4_init 75 = .ok (.invokespecial 48, 3) := by decide +kernel
theorem dX4_init_78 : decode cX4_init 78 = .ok (.putfield 49, 3) := by decide +kernel
theorem dX4_init_81 : decode cX4_init 81 = .ok (.aload_n 0, 1) := by decide +kernel
theorem dX4_init_82 : decode cX4_init 82 = .ok (.new 53, 3) := by decide +kernel
theorem dX4_init_85 : decode cX4_init 85 = .ok (.dup, 1) := by decide +kernel
theorem dX4_init_86 : decode cX4_init 86 = .ok (.invokespecial 55, 3) := by decide +kernel
theorem dX4_init_89 : decode cX4_init 89 = .ok (.putfield 56, 3) := by decide +kernel
theorem dX4_init_92 : decode cX4_init 92 = .ok (.iconst 0, 1) := by decide +kernel
theorem dX4_init_93 : decode cX4_init 93 = .ok (.istore_n 1, 1) := by decide +kernel
theorem dX4_init_94 : decode cX4_init 94 = .ok (.iload_n 1, 1) := by decide +kernel
theorem dX4_init_95 : decode cX4_init 95 = .ok (.iconst 5, 1) := by decide +kernel
theorem dX4_init_96 : decode cX4_init 96 = .ok (.if_icmp .ge 22, 3) := by decide +kernel
theorem dX4_init_99 : decode cX4_init 99 = .ok (.aload_n 0, 1) := by decide +kernel
theorem dX4_init_100 : decode cX4_init 100 = .ok (.getfield 19, 3) := by decide +kernel
theorem dX4_init_103 : decode cX4_init 103 = .ok (.iload_n 1, 1) := by decide +kernel
theorem dX4_init_104 : decode cX4_init 104 = .ok (.new 9, 3) := by decide +kernel
theorem dX4_init_107 : decode cX4_init 107 = .ok (.dup, 1) := by decide +kernel
theorem dX4_init_108 : decode cX4_init 108 = .ok (.invokespecial 11, 3) := by decide +kernel
theorem dX4_init_111 : decode cX4_init 111 = .ok (.aastore, 1) := by decide +kernel
theorem dX4_init_112 : decode cX4_init 112 = .ok (.iinc 1 1, 3) := by decide +kernel
theorem dX4_init_115 : decode cX4_init 115 = .ok (.goto (-21), 3) := by decide +kernel
theorem dX4_init_118 : decode cX4_init 118 = .ok (.return_, 1) := by decide +kernel
set_option maxRecDepth 20000 in
theorem ggX4_span_X4_keepBefore : GoodIn wsX4_span wsX4_keepBefore := goodIn_r _ [6, 7, 1, 8, 9, 10, 11, 12, 13, 14, 15, 16, 17, 18, 19, 20, 57, 58, 59, 60, 61, 62, 63, 64, 65, 66, 67, 68, 69, 70, 71] (by decide +kernel) (by decide +kernel)
set_option maxRecDepth 20000 in
theorem gX4_span_X4_keepBefore : GoodIn wsX4_span (wsV RX4 60 RX4 yX4_keepBefore wsX4_keepBefore) := goodIn_app (goodIn_of _ (by decide +kernel)) ggX4_span_X4_keepBefore
set_option maxRecDepth 20000 in
theorem ggX4_span_X0_addSpan : GoodIn wsX4_span wsX0_addSpan := goodIn_r _ [24, 25, 13, 26, 27, 5, 28, 29, 30, 31, 11, 32, 15, 68, 69, 70, 71] (by decide +kernel) (by decide +kernel)
set_option maxRecDepth 20000 in
theorem gX4_span_X0_addSpan : GoodIn wsX4_span (wsV RX4 63 RX0 yX0_addSpan wsX0_addSpan) := goodIn_app (goodIn_of _ (by decide +kernel)) ggX4_span_X0_addSpan
set_option maxRecDepth 20000 in
theorem ggX4_span_X4_settled : GoodIn wsX4_span wsX4_settled := goodIn_r _ [36, 37, 38, 7, 39, 40, 41, 42, 43, 44, 45, 5, 46, 47, 48, 49, 50, 51, 52, 53, 54, 55, 56, 8, 9, 10, 11, 12, 13, 14, 15, 16, 17, 18, 19, 20, 57, 58, 59, 60, 61, 62, 63, 64, 65, 66, 67, 68, 69, 70, 71] (by decide +kernel) (by decide +kernel)
set_option maxRecDepth 20000 in
theorem gX4_span_X4_settled : GoodIn wsX4_span (wsV RX4 67 RX4 yX4_settled wsX4_settled) := goodIn_app (goodIn_of _ (by decide +kernel)) ggX4_span_X4_settled
theorem dX4_span_0 : decode cX4_span 0 = .ok (.aload_n 0, 1) := by decide +kernel
theorem dX4_span_1 : decode cX4_span 1 = .ok (.invokevirtual 60, 3) := by decide +kernel
theorem dX4_span_4 : decode cX4_span 4 = .ok (.aload_n 0, 1) := by decide +kernel
theorem dX4_span_5 : decode cX4_span 5 = .ok (.aload_n 0, 1) := by decide +kernel
theorem dX4_span_6 : decode cX4_span 6 = .ok (.getfield 12, 3) := by decide +kernel
theorem dX4_span_9 : decode cX4_span 9 = .ok (.iload_n 1, 1) := by decide +kernel
theorem dX4_span_10 : decode cX4_span 10 = .ok (.iload_n 2, 1) := by decide +kernel
theorem dX4_span_11 : decode cX4_span 11 = .ok (.iload_n 3, 1) := by decide +kernel
theorem dX4_span_12 : decode cX4_span 12 = .ok (.iload 4, 2) := by decide +kernel
theorem dX4_span_14 : decode cX4_span 14 = .ok (.invokevirtual 63, 3) := by decide +kernel
theorem dX4_span_17 : decode cX4_span 17 = .ok (.invokevirtual 67, 3) := by decide +kernel
theorem dX4_span_20 : decode cX4_span 20 = .ok (.ireturn, 1) := by decide +kernel
set_option maxRecDepth 20000 in
theorem ggX4_cuts_X4_keepBefore : GoodIn wsX4_cuts wsX4_keepBefore := goodIn_r _ [6, 7, 1, 8, 9, 10, 11, 12, 13, 14, 15, 16, 17, 18, 19, 20, 50, 51, 52, 53, 54, 55, 56, 57, 58, 59, 60, 61, 62, 63, 64] (by decide +kernel) (by decide +kernel)
set_option maxRecDepth 20000 in
theorem gX4_cuts_X4_keepBefore : GoodIn wsX4_cuts (wsV RX4 60 RX4 yX4_keepBefore wsX4_keepBefore) := goodIn_app (goodIn_of _ (by decide +kernel)) ggX4_cuts_X4_keepBefore
set_option maxRecDepth 20000 in
theorem ggX4_cuts_X0_cutLast : GoodIn wsX4_cuts wsX0_cutLast := goodIn_r _ [24, 13, 25, 14, 61, 62, 63, 64] (by decide +kernel) (by decide +kernel)
set_option maxRecDepth 20000 in
theorem gX4_cuts_X0_cutLast : GoodIn wsX4_cuts (wsV RX4 71 RX0 yX0_cutLast wsX0_cutLast) := goodIn_app (goodIn_of _ (by decide +kernel)) ggX4_cuts_X0_cutLast
set_option maxRecDepth 20000 in
theorem ggX4_cuts_X4_settled : GoodIn wsX4_cuts wsX4_settled := goodIn_r _ [29, 30, 31, 7, 32, 33, 34, 35, 36, 37, 38, 5, 39, 40, 41, 42, 43, 44, 45, 46, 47, 48, 49, 8, 9, 10, 11, 12, 13, 14, 15, 16, 17, 18, 19, 20, 50, 51, 52, 53, 54, 55, 56, 57, 58, 59, 60, 61, 62, 63, 64] (by decide +kernel) (by decide +kernel)
set_option maxRecDepth 20000 in
theorem gX4_cuts_X4_settled : GoodIn wsX4_cuts (wsV RX4 67 RX4 yX4_settled wsX4_settled) := goodIn_app (goodIn_of _ (by decide +kernel)) ggX4_cuts_X4_settled
theorem dX4_cuts_0 : decode cX4_cuts 0 = .ok (.aload_n 0, 1) := by decide +kernel
theorem dX4_cuts_1 : decode cX4_cuts 1 = .ok (.invokevirtual 60, 3) := by decide +kernel
theorem dX4_cuts_4 : decode cX4_cuts 4 = .ok (.aload_n 0, 1) := by decide +kernel
theorem dX4_cuts_5 : decode cX4_cuts 5 = .ok (.aload_n 0, 1) := by decide +kernel
theorem dX4_cuts_6 : decode cX4_cuts 6 = .ok (.getfield 12, 3) := by decide +kernel
theorem dX4_cuts_9 : decode cX4_cuts 9 = .ok (.invokevirtual 71, 3) := by decide +kernel
theorem dX4_cuts_12 : decode cX4_cuts 12 = .ok (.invokevirtual 67, 3) := by decide +kernel
theorem dX4_cuts_15 : decode cX4_cuts 15 = .ok (.ireturn, 1) := by decide +kernel
set_option maxRecDepth 20000 in
theorem ggX4_sets_X4_keepBefore : GoodIn wsX4_sets wsX4_keepBefore := goodIn_r _ [6, 7, 1, 8, 9, 10, 11, 12, 13, 14, 15, 16, 17, 18, 19, 20, 52, 53, 54, 55, 56, 57, 58, 59, 60, 61, 62, 63, 64, 65, 66] (by decide +kernel) (by decide +kernel)
set_option maxRecDepth 20000 in
theorem gX4_sets_X4_keepBefore : GoodIn wsX4_sets (wsV RX4 60 RX4 yX4_keepBefore wsX4_keepBefore) := goodIn_app (goodIn_of _ (by decide +kernel)) ggX4_sets_X4_keepBefore
set_option maxRecDepth 20000 in
theorem ggX4_sets_X0_changeSetting : GoodIn wsX4_sets wsX0_changeSetting := goodIn_r _ [24, 25, 20, 26, 5, 27, 63, 64, 65, 66] (by decide +kernel) (by decide +kernel)
set_option maxRecDepth 20000 in
theorem gX4_sets_X0_changeSetting : GoodIn wsX4_sets (wsV RX4 75 RX0 yX0_changeSetting wsX0_changeSetting) := goodIn_app (goodIn_of _ (by decide +kernel)) ggX4_sets_X0_changeSetting
set_option maxRecDepth 20000 in
theorem ggX4_sets_X4_settled : GoodIn wsX4_sets wsX4_settled := goodIn_r _ [31, 32, 33, 7, 34, 35, 36, 37, 38, 39, 40, 5, 41, 42, 43, 44, 45, 46, 47, 48, 49, 50, 51, 8, 9, 10, 11, 12, 13, 14, 15, 16, 17, 18, 19, 20, 52, 53, 54, 55, 56, 57, 58, 59, 60, 61, 62, 63, 64, 65, 66] (by decide +kernel) (by decide +kernel)
set_option maxRecDepth 20000 in
theorem gX4_sets_X4_settled : GoodIn wsX4_sets (wsV RX4 67 RX4 yX4_settled wsX4_settled) := goodIn_app (goodIn_of _ (by decide +kernel)) ggX4_sets_X4_settled
theorem dX4_sets_0 : decode cX4_sets 0 = .ok (.aload_n 0, 1) := by decide +kernel
theorem dX4_sets_1 : decode cX4_sets 1 = .ok (.invokevirtual 60, 3) := by decide +kernel
theorem dX4_sets_4 : decode cX4_sets 4 = .ok (.aload_n 0, 1) := by decide +kernel
theorem dX4_sets_5 : decode cX4_sets 5 = .ok (.aload_n 0, 1) := by decide +kernel
theorem dX4_sets_6 : decode cX4_sets 6 = .ok (.getfield 12, 3) := by decide +kernel
theorem dX4_sets_9 : decode cX4_sets 9 = .ok (.iload_n 1, 1) := by decide +kernel
theorem dX4_sets_10 : decode cX4_sets 10 = .ok (.iload_n 2, 1) := by decide +kernel
theorem dX4_sets_11 : decode cX4_sets 11 = .ok (.invokevirtual 75, 3) := by decide +kernel
theorem dX4_sets_14 : decode cX4_sets 14 = .ok (.invokevirtual 67, 3) := by decide +kernel
theorem dX4_sets_17 : decode cX4_sets 17 = .ok (.ireturn, 1) := by decide +kernel
set_option maxRecDepth 20000 in
theorem ggX4_pumps_X4_keepBefore : GoodIn wsX4_pumps wsX4_keepBefore := goodIn_r _ [6, 7, 1, 8, 9, 10, 11, 12, 13, 14, 15, 16, 17, 18, 19, 20, 63, 64, 65, 66, 67, 68, 69, 70, 71, 72, 73, 74, 75, 76, 77] (by decide +kernel) (by decide +kernel)
set_option maxRecDepth 20000 in
theorem gX4_pumps_X4_keepBefore : GoodIn wsX4_pumps (wsV RX4 60 RX4 yX4_keepBefore wsX4_keepBefore) := goodIn_app (goodIn_of _ (by decide +kernel)) ggX4_pumps_X4_keepBefore
set_option maxRecDepth 20000 in
theorem ggX4_pumps_X0_turnPump : GoodIn wsX4_pumps wsX0_turnPump := goodIn_r _ [24, 25, 14, 26, 27, 28, 11, 29, 13, 30, 5, 31, 32, 33, 34, 35, 36, 37, 38, 74, 75, 76, 77] (by decide +kernel) (by decide +kernel)
set_option maxRecDepth 20000 in
theorem gX4_pumps_X0_turnPump : GoodIn wsX4_pumps (wsV RX4 79 RX0 yX0_turnPump wsX0_turnPump) := goodIn_app (goodIn_of _ (by decide +kernel)) ggX4_pumps_X0_turnPump
set_option maxRecDepth 20000 in
theorem ggX4_pumps_X4_settled : GoodIn wsX4_pumps wsX4_settled := goodIn_r _ [42, 43, 44, 7, 45, 46, 47, 48, 49, 50, 51, 5, 52, 53, 54, 55, 56, 57, 58, 59, 60, 61, 62, 8, 9, 10, 11, 12, 13, 14, 15, 16, 17, 18, 19, 20, 63, 64, 65, 66, 67, 68, 69, 70, 71, 72, 73, 74, 75, 76, 77] (by decide +kernel) (by decide +kernel)
set_option maxRecDepth 20000 in
theorem gX4_pumps_X4_settled : GoodIn wsX4_pumps (wsV RX4 67 RX4 yX4_settled wsX4_settled) := goodIn_app (goodIn_of _ (by decide +kernel)) ggX4_pumps_X4_settled
theorem dX4_pumps_0 : decode cX4_pumps 0 = .ok (.aload_n 0, 1) := by decide +kernel
theorem dX4_pumps_1 : decode cX4_pumps 1 = .ok (.invokevirtual 60, 3) := by decide +kernel
theorem dX4_pumps_4 : decode cX4_pumps 4 = .ok (.aload_n 0, 1) := by decide +kernel
theorem dX4_pumps_5 : decode cX4_pumps 5 = .ok (.aload_n 0, 1) := by decide +kernel
theorem dX4_pumps_6 : decode cX4_pumps 6 = .ok (.getfield 12, 3) := by decide +kernel
theorem dX4_pumps_9 : decode cX4_pumps 9 = .ok (.iload_n 1, 1) := by decide +kernel
theorem dX4_pumps_10 : decode cX4_pumps 10 = .ok (.invokevirtual 79, 3) := by decide +kernel
theorem dX4_pumps_13 : decode cX4_pumps 13 = .ok (.invokevirtual 67, 3) := by decide +kernel
theorem dX4_pumps_16 : decode cX4_pumps 16 = .ok (.ireturn, 1) := by decide +kernel
set_option maxRecDepth 20000 in
theorem ggX4_bursts_X4_keepBefore : GoodIn wsX4_bursts wsX4_keepBefore := goodIn_r _ [6, 7, 1, 8, 9, 10, 11, 12, 13, 14, 15, 16, 17, 18, 19, 20, 64, 65, 66, 67, 68, 69, 70, 71, 72, 73, 74, 75, 76, 77, 78] (by decide +kernel) (by decide +kernel)
set_option maxRecDepth 20000 in
theorem gX4_bursts_X4_keepBefore : GoodIn wsX4_bursts (wsV RX4 60 RX4 yX4_keepBefore wsX4_keepBefore) := goodIn_app (goodIn_of _ (by decide +kernel)) ggX4_bursts_X4_keepBefore
set_option maxRecDepth 20000 in
theorem ggX4_bursts_X0_burstSpan : GoodIn wsX4_bursts wsX0_burstSpan := goodIn_r _ [24, 25, 26, 27, 28, 11, 29, 13, 30, 5, 31, 32, 33, 34, 35, 15, 36, 37, 38, 39, 75, 76, 77, 78] (by decide +kernel) (by decide +kernel)
set_option maxRecDepth 20000 in
theorem gX4_bursts_X0_burstSpan : GoodIn wsX4_bursts (wsV RX4 82 RX0 yX0_burstSpan wsX0_burstSpan) := goodIn_app (goodIn_of _ (by decide +kernel)) ggX4_bursts_X0_burstSpan
set_option maxRecDepth 20000 in
theorem ggX4_bursts_X4_settled : GoodIn wsX4_bursts wsX4_settled := goodIn_r _ [43, 44, 45, 7, 46, 47, 48, 49, 50, 51, 52, 5, 53, 54, 55, 56, 57, 58, 59, 60, 61, 62, 63, 8, 9, 10, 11, 12, 13, 14, 15, 16, 17, 18, 19, 20, 64, 65, 66, 67, 68, 69, 70, 71, 72, 73, 74, 75, 76, 77, 78] (by decide +kernel) (by decide +kernel)
set_option maxRecDepth 20000 in
theorem gX4_bursts_X4_settled : GoodIn wsX4_bursts (wsV RX4 67 RX4 yX4_settled wsX4_settled) := goodIn_app (goodIn_of _ (by decide +kernel)) ggX4_bursts_X4_settled
theorem dX4_bursts_0 : decode cX4_bursts 0 = .ok (.aload_n 0, 1) := by decide +kernel
theorem dX4_bursts_1 : decode cX4_bursts 1 = .ok (.invokevirtual 60, 3) := by decide +kernel
theorem dX4_bursts_4 : decode cX4_bursts 4 = .ok (.aload_n 0, 1) := by decide +kernel
theorem dX4_bursts_5 : decode cX4_bursts 5 = .ok (.aload_n 0, 1) := by decide +kernel
theorem dX4_bursts_6 : decode cX4_bursts 6 = .ok (.getfield 12, 3) := by decide +kernel
theorem dX4_bursts_9 : decode cX4_bursts 9 = .ok (.iload_n 1, 1) := by decide +kernel
theorem dX4_bursts_10 : decode cX4_bursts 10 = .ok (.invokevirtual 82, 3) := by decide +kernel
theorem dX4_bursts_13 : decode cX4_bursts 13 = .ok (.invokevirtual 67, 3) := by decide +kernel
theorem dX4_bursts_16 : decode cX4_bursts 16 = .ok (.ireturn, 1) := by decide +kernel
set_option maxRecDepth 20000 in
theorem ggX4_mends_X4_keepBefore : GoodIn wsX4_mends wsX4_keepBefore := goodIn_r _ [6, 7, 1, 8, 9, 10, 11, 12, 13, 14, 15, 16, 17, 18, 19, 20, 69, 70, 71, 72, 73, 74, 75, 76, 77, 78, 79, 80, 81, 82, 83] (by decide +kernel) (by decide +kernel)
set_option maxRecDepth 20000 in
theorem gX4_mends_X4_keepBefore : GoodIn wsX4_mends (wsV RX4 60 RX4 yX4_keepBefore wsX4_keepBefore) := goodIn_app (goodIn_of _ (by decide +kernel)) ggX4_mends_X4_keepBefore
set_option maxRecDepth 20000 in
theorem ggX4_mends_X0_mendSpan : GoodIn wsX4_mends wsX0_mendSpan := goodIn_r _ [24, 25, 20, 26, 27, 28, 29, 11, 30, 13, 31, 5, 32, 33, 34, 35, 36, 15, 37, 38, 39, 40, 41, 42, 43, 44, 80, 81, 82, 83] (by decide +kernel) (by decide +kernel)
set_option maxRecDepth 20000 in
theorem gX4_mends_X0_mendSpan : GoodIn wsX4_mends (wsV RX4 85 RX0 yX0_mendSpan wsX0_mendSpan) := goodIn_app (goodIn_of _ (by decide +kernel)) ggX4_mends_X0_mendSpan
set_option maxRecDepth 20000 in
theorem ggX4_mends_X4_settled : GoodIn wsX4_mends wsX4_settled := goodIn_r _ [48, 49, 50, 7, 51, 52, 53, 54, 55, 56, 57, 5, 58, 59, 60, 61, 62, 63, 64, 65, 66, 67, 68, 8, 9, 10, 11, 12, 13, 14, 15, 16, 17, 18, 19, 20, 69, 70, 71, 72, 73, 74, 75, 76, 77, 78, 79, 80, 81, 82, 83] (by decide +kernel) (by decide +kernel)
set_option maxRecDepth 20000 in
theorem gX4_mends_X4_settled : GoodIn wsX4_mends (wsV RX4 67 RX4 yX4_settled wsX4_settled) := goodIn_app (goodIn_of _ (by decide +kernel)) ggX4_mends_X4_settled
theorem dX4_mends_0 : decode cX4_mends 0 = .ok (.aload_n 0, 1) := by decide +kernel
theorem dX4_mends_1 : decode cX4_mends 1 = .ok (.invokevirtual 60, 3) := by decide +kernel
theorem dX4_mends_4 : decode cX4_mends 4 = .ok (.aload_n 0, 1) := by decide +kernel
theorem dX4_mends_5 : decode cX4_mends 5 = .ok (.aload_n 0, 1) := by decide +kernel
theorem dX4_mends_6 : decode cX4_mends 6 = .ok (.getfield 12, 3) := by decide +kernel
theorem dX4_mends_9 : decode cX4_mends 9 = .ok (.iload_n 1, 1) := by decide +kernel
theorem dX4_mends_10 : decode cX4_mends 10 = .ok (.invokevirtual 85, 3) := by decide +kernel
theorem dX4_mends_13 : decode cX4_mends 13 = .ok (.invokevirtual 67, 3) := by decide +kernel
theorem dX4_mends_16 : decode cX4_mends 16 = .ok (.ireturn, 1) := by decide +kernel
set_option maxRecDepth 20000 in
theorem ggX4_lays_X1_bestSet : GoodIn wsX4_lays wsX1_bestSet := goodIn_r _ [11, 12, 13, 14, 15, 16, 17, 18, 19, 20, 21, 22, 10, 23, 24, 25, 26, 27, 28, 29, 30, 31, 32, 33, 34, 35, 36, 37, 38, 39, 40, 41, 42, 101, 97, 98, 99, 100] (by decide +kernel) (by decide +kernel)
set_option maxRecDepth 20000 in
theorem gX4_lays_X1_bestSet : GoodIn wsX4_lays (wsV RX4 92 RX1 yX1_bestSet wsX1_bestSet) := goodIn_app (goodIn_of _ (by decide +kernel)) ggX4_lays_X1_bestSet
set_option maxRecDepth 20000 in
theorem ggX4_lays_X4_counted : GoodIn wsX4_lays wsX4_counted := goodIn_r _ [47, 48, 49, 50, 86, 87, 88, 89, 90, 91, 92, 93, 94, 95, 96] (by decide +kernel) (by decide +kernel)
set_option maxRecDepth 20000 in
theorem gX4_lays_X4_counted : GoodIn wsX4_lays (wsV RX4 98 RX4 yX4_counted wsX4_counted) := goodIn_app (goodIn_of _ (by decide +kernel)) ggX4_lays_X4_counted
set_option maxRecDepth 20000 in
theorem ggX4_lays_X4_keepBefore : GoodIn wsX4_lays wsX4_keepBefore := goodIn_r _ [54, 55, 2, 56, 57, 58, 31, 59, 60, 61, 37, 62, 63, 64, 65, 66, 86, 87, 88, 89, 90, 91, 92, 93, 94, 95, 96, 97, 98, 99, 100] (by decide +kernel) (by decide +kernel)
set_option maxRecDepth 20000 in
theorem gX4_lays_X4_keepBefore : GoodIn wsX4_lays (wsV RX4 60 RX4 yX4_keepBefore wsX4_keepBefore) := goodIn_app (goodIn_of _ (by decide +kernel)) ggX4_lays_X4_keepBefore
set_option maxRecDepth 20000 in
theorem ggX4_lays_X4_bitsOf : GoodIn wsX4_lays wsX4_bitsOf := goodIn_r _ [69] (by decide +kernel) (by decide +kernel)
set_option maxRecDepth 20000 in
theorem gX4_lays_X4_bitsOf : GoodIn wsX4_lays (va_wsS RX4 101 yX4_bitsOf wsX4_bitsOf) := goodIn_app (goodIn_of _ (by decide +kernel)) ggX4_lays_X4_bitsOf
set_option maxRecDepth 20000 in
theorem ggX4_lays_X4_sizeOf : GoodIn wsX4_lays wsX4_sizeOf := goodIn_r _ [72] (by decide +kernel) (by decide +kernel)
set_option maxRecDepth 20000 in
theorem gX4_lays_X4_sizeOf : GoodIn wsX4_lays (va_wsS RX4 107 yX4_sizeOf wsX4_sizeOf) := goodIn_app (goodIn_of _ (by decide +kernel)) ggX4_lays_X4_sizeOf
set_option maxRecDepth 20000 in
theorem ggX4_lays_X4_settled : GoodIn wsX4_lays wsX4_settled := goodIn_r _ [76, 77, 78, 55, 79, 80, 25, 26, 27, 81, 82, 46, 83, 84, 5, 85, 43, 44, 45, 47, 48, 49, 50, 56, 57, 58, 31, 59, 60, 61, 37, 62, 63, 64, 65, 66, 86, 87, 88, 89, 90, 91, 92, 93, 94, 95, 96, 97, 98, 99, 100] (by decide +kernel) (by decide +kernel)
set_option maxRecDepth 20000 in
theorem gX4_lays_X4_settled : GoodIn wsX4_lays (wsV RX4 67 RX4 yX4_settled wsX4_settled) := goodIn_app (goodIn_of _ (by decide +kernel)) ggX4_lays_X4_settled
theorem dX4_lays_0 : decode cX4_lays 0 = .ok (.aload_n 0, 1) := by decide +kernel
theorem dX4_lays_1 : decode cX4_lays 1 = .ok (.getfield 56, 3) := by decide +kernel
theorem dX4_lays_4 : decode cX4_lays 4 = .ok (.aload_n 0, 1) := by decide +kernel
theorem dX4_lays_5 : decode cX4_lays 5 = .ok (.getfield 12, 3) := by decide +kernel
theorem dX4_lays_8 : decode cX4_lays 8 = .ok (.aload_n 0, 1) := by decide +kernel
theorem dX4_lays_9 : decode cX4_lays 9 = .ok (.getfield 12, 3) := by decide +kernel
theorem dX4_lays_12 : decode cX4_lays 12 = .ok (.getfield 88, 3) := by decide +kernel
theorem dX4_lays_15 : decode cX4_lays 15 = .ok (.iconst 0, 1) := by decide +kernel
theorem dX4_lays_16 : decode cX4_lays 16 = .ok (.iaload, 1) := by decide +kernel
theorem dX4_lays_17 : decode cX4_lays 17 = .ok (.invokevirtual 92, 3) := by decide +kernel
theorem dX4_lays_20 : decode cX4_lays 20 = .ok (.istore_n 1, 1) := by decide +kernel
theorem dX4_lays_21 : decode cX4_lays 21 = .ok (.iload_n 1, 1) := by decide +kernel
theorem dX4_lays_22 : decode cX4_lays 22 = .ok (.ldc 96, 2) := by decide +kernel
theorem dX4_lays_24 : decode cX4_lays 24 = .ok (.if_icmp .ne 10, 3) := by decide +kernel
theorem dX4_lays_27 : decode cX4_lays 27 = .ok (.aload_n 0, 1) := by decide +kernel
theorem dX4_lays_28 : decode cX4_lays 28 = .ok (.ldc 97, 2) := by decide +kernel
theorem dX4_lays_30 : decode cX4_lays 30 = .ok (.invokevirtual 98, 3) := by decide +kernel
theorem dX4_lays_33 : decode cX4_lays 33 = .ok (.ireturn, 1) := by decide +kernel
theorem dX4_lays_34 : decode cX4_lays 34 = .ok (.aload_n 0, 1) := by decide +kernel
theorem dX4_lays_35 : decode cX4_lays 35 = .ok (.invokevirtual 60, 3) := by decide +kernel
theorem dX4_lays_38 : decode cX4_lays 38 = .ok (.aload_n 0, 1) := by decide +kernel
theorem dX4_lays_39 : decode cX4_lays 39 = .ok (.getfield 12, 3) := by decide +kernel
theorem dX4_lays_42 : decode cX4_lays 42 = .ok (.iload_n 1, 1) := by decide +kernel
theorem dX4_lays_43 : decode cX4_lays 43 = .ok (.invokestatic 101, 3) := by decide +kernel
theorem dX4_lays_46 : decode cX4_lays 46 = .ok (.putfield 104, 3) := by decide +kernel
theorem dX4_lays_49 : decode cX4_lays 49 = .ok (.aload_n 0, 1) := by decide +kernel
theorem dX4_lays_50 : decode cX4_lays 50 = .ok (.iload_n 1, 1) := by decide +kernel
theorem dX4_lays_51 : decode cX4_lays 51 = .ok (.invokestatic 107, 3) := by decide +kernel
theorem dX4_lays_54 : decode cX4_lays 54 = .ok (.invokevirtual 67, 3) := by decide +kernel
theorem dX4_lays_57 : decode cX4_lays 57 = .ok (.ireturn, 1) := by decide +kernel
set_option maxRecDepth 20000 in
theorem ggX4_of_X0_hasSpan : GoodIn wsX4_of wsX0_hasSpan := goodIn_r _ [7, 8, 9, 10, 11, 36, 37, 38, 39] (by decide +kernel) (by decide +kernel)
set_option maxRecDepth 20000 in
theorem gX4_of_X0_hasSpan : GoodIn wsX4_of (wsV RX4 110 RX0 yX0_hasSpan wsX0_hasSpan) := goodIn_app (goodIn_of _ (by decide +kernel)) ggX4_of_X0_hasSpan
set_option maxRecDepth 20000 in
theorem ggX4_of_X4_within : GoodIn wsX4_of wsX4_within := goodIn_r _ [11] (by decide +kernel) (by decide +kernel)
set_option maxRecDepth 20000 in
theorem gX4_of_X4_within : GoodIn wsX4_of (va_wsS RX4 114 yX4_within wsX4_within) := goodIn_app (goodIn_of _ (by decide +kernel)) ggX4_of_X4_within
set_option maxRecDepth 20000 in
theorem ggX4_of_X4_counted : GoodIn wsX4_of wsX4_counted := goodIn_r _ [16, 17, 18, 19, 25, 26, 27, 28, 29, 30, 31, 32, 33, 34, 35] (by decide +kernel) (by decide +kernel)
set_option maxRecDepth 20000 in
theorem gX4_of_X4_counted : GoodIn wsX4_of (wsV RX4 98 RX4 yX4_counted wsX4_counted) := goodIn_app (goodIn_of _ (by decide +kernel)) ggX4_of_X4_counted
set_option maxRecDepth 20000 in
theorem ggX4_of_X0_fact : GoodIn wsX4_of wsX0_fact := goodIn_r _ [23, 24, 36, 37, 38, 39] (by decide +kernel) (by decide +kernel)
set_option maxRecDepth 20000 in
theorem gX4_of_X0_fact : GoodIn wsX4_of (wsV RX4 119 RX0 yX0_fact wsX0_fact) := goodIn_app (goodIn_of _ (by decide +kernel)) ggX4_of_X0_fact
theorem dX4_of_0 : decode cX4_of 0 = .ok (.aload_n 0, 1) := by decide +kernel
theorem dX4_of_1 : decode cX4_of 1 = .ok (.getfield 12, 3) := by decide +kernel
theorem dX4_of_4 : decode cX4_of 4 = .ok (.iload_n 1, 1) := by decide +kernel
theorem dX4_of_5 : decode cX4_of 5 = .ok (.invokevirtual 110, 3) := by decide +kernel
theorem dX4_of_8 : decode cX4_of 8 = .ok (.ifCond .eq 12, 3) := by decide +kernel
theorem dX4_of_11 : decode cX4_of 11 = .ok (.iload_n 2, 1) := by decide +kernel
theorem dX4_of_12 : decode cX4_of 12 = .ok (.iconst 0, 1) := by decide +kernel
theorem dX4_of_13 : decode cX4_of 13 = .ok (.iconst 4, 1) := by decide +kernel
theorem dX4_of_14 : decode cX4_of 14 = .ok (.invokestatic 114, 3) := by decide +kernel
theorem dX4_of_17 : decode cX4_of 17 = .ok (.ifCond .ne 10, 3) := by decide +kernel
theorem dX4_of_20 : decode cX4_of 20 = .ok (.aload_n 0, 1) := by decide +kernel
theorem dX4_of_21 : decode cX4_of 21 = .ok (.ldc 118, 2) := by decide +kernel
theorem dX4_of_23 : decode cX4_of 23 = .ok (.invokevirtual 98, 3) := by decide +kernel
theorem dX4_of_26 : decode cX4_of 26 = .ok (.ireturn, 1) := by decide +kernel
theorem dX4_of_27 : decode cX4_of 27 = .ok (.aload_n 0, 1) := by decide +kernel
theorem dX4_of_28 : decode cX4_of 28 = .ok (.getfield 12, 3) := by decide +kernel
theorem dX4_of_31 : decode cX4_of 31 = .ok (.iload_n 1, 1) := by decide +kernel
theorem dX4_of_32 : decode cX4_of 32 = .ok (.iload_n 2, 1) := by decide +kernel
theorem dX4_of_33 : decode cX4_of 33 = .ok (.invokevirtual 119, 3) := by decide +kernel
theorem dX4_of_36 : decode cX4_of 36 = .ok (.ireturn, 1) := by decide +kernel
set_option maxRecDepth 20000 in
theorem ggX4_loss_X0_hasSpan : GoodIn wsX4_loss wsX0_hasSpan := goodIn_r _ [7, 8, 9, 10, 11, 40, 41, 42, 43] (by decide +kernel) (by decide +kernel)
set_option maxRecDepth 20000 in
theorem gX4_loss_X0_hasSpan : GoodIn wsX4_loss (wsV RX4 110 RX0 yX0_hasSpan wsX0_hasSpan) := goodIn_app (goodIn_of _ (by decide +kernel)) ggX4_loss_X0_hasSpan
set_option maxRecDepth 20000 in
theorem ggX4_loss_X4_within : GoodIn wsX4_loss wsX4_within := goodIn_r _ [11] (by decide +kernel) (by decide +kernel)
set_option maxRecDepth 20000 in
theorem gX4_loss_X4_within : GoodIn wsX4_loss (va_wsS RX4 114 yX4_within wsX4_within) := goodIn_app (goodIn_of _ (by decide +kernel)) ggX4_loss_X4_within
set_option maxRecDepth 20000 in
theorem ggX4_loss_X4_counted : GoodIn wsX4_loss wsX4_counted := goodIn_r _ [16, 17, 18, 19, 29, 30, 31, 32, 33, 34, 35, 36, 37, 38, 39] (by decide +kernel) (by decide +kernel)
set_option maxRecDepth 20000 in
theorem gX4_loss_X4_counted : GoodIn wsX4_loss (wsV RX4 98 RX4 yX4_counted wsX4_counted) := goodIn_app (goodIn_of _ (by decide +kernel)) ggX4_loss_X4_counted
set_option maxRecDepth 20000 in
theorem ggX4_loss_X0_lossBy : GoodIn wsX4_loss wsX0_lossBy := goodIn_r _ [23, 24, 25, 26, 6, 27, 28, 40, 41, 42, 43] (by decide +kernel) (by decide +kernel)
set_option maxRecDepth 20000 in
theorem gX4_loss_X0_lossBy : GoodIn wsX4_loss (wsV RX4 122 RX0 yX0_lossBy wsX0_lossBy) := goodIn_app (goodIn_of _ (by decide +kernel)) ggX4_loss_X0_lossBy
theorem dX4_loss_0 : decode cX4_loss 0 = .ok (.aload_n 0, 1) := by decide +kernel
theorem dX4_loss_1 : decode cX4_loss 1 = .ok (.getfield 12, 3) := by decide +kernel
theorem dX4_loss_4 : decode cX4_loss 4 = .ok (.iload_n 1, 1) := by decide +kernel
theorem dX4_loss_5 : decode cX4_loss 5 = .ok (.invokevirtual 110, 3) := by decide +kernel
theorem dX4_loss_8 : decode cX4_loss 8 = .ok (.ifCond .eq 13, 3) := by decide +kernel
theorem dX4_loss_11 : decode cX4_loss 11 = .ok (.iload_n 2, 1) := by decide +kernel
theorem dX4_loss_12 : decode cX4_loss 12 = .ok (.iconst 1, 1) := by decide +kernel
theorem dX4_loss_13 : decode cX4_loss 13 = .ok (.bipush 30, 2) := by decide +kernel
theorem dX4_loss_15 : decode cX4_loss 15 = .ok (.invokestatic 114, 3) := by decide +kernel
theorem dX4_loss_18 : decode cX4_loss 18 = .ok (.ifCond .ne 10, 3) := by decide +kernel
theorem dX4_loss_21 : decode cX4_loss 21 = .ok (.aload_n 0, 1) := by decide +kernel
theorem dX4_loss_22 : decode cX4_loss 22 = .ok (.ldc 118, 2) := by decide +kernel
theorem dX4_loss_24 : decode cX4_loss 24 = .ok (.invokevirtual 98, 3) := by decide +kernel
theorem dX4_loss_27 : decode cX4_loss 27 = .ok (.ireturn, 1) := by decide +kernel
theorem dX4_loss_28 : decode cX4_loss 28 = .ok (.aload_n 0, 1) := by decide +kernel
theorem dX4_loss_29 : decode cX4_loss 29 = .ok (.getfield 12, 3) := by decide +kernel
theorem dX4_loss_32 : decode cX4_loss 32 = .ok (.iload_n 1, 1) := by decide +kernel
theorem dX4_loss_33 : decode cX4_loss 33 = .ok (.iload_n 2, 1) := by decide +kernel
theorem dX4_loss_34 : decode cX4_loss 34 = .ok (.invokevirtual 122, 3) := by decide +kernel
theorem dX4_loss_37 : decode cX4_loss 37 = .ok (.ireturn, 1) := by decide +kernel
set_option maxRecDepth 20000 in
theorem ggX4_node_X0_hasNode : GoodIn wsX4_node wsX0_hasNode := goodIn_r _ [11, 12, 13, 14, 15, 78, 79, 80, 81] (by decide +kernel) (by decide +kernel)
set_option maxRecDepth 20000 in
theorem gX4_node_X0_hasNode : GoodIn wsX4_node (wsV RX4 125 RX0 yX0_hasNode wsX0_hasNode) := goodIn_app (goodIn_of _ (by decide +kernel)) ggX4_node_X0_hasNode
set_option maxRecDepth 20000 in
theorem ggX4_node_X4_within : GoodIn wsX4_node wsX4_within := goodIn_r _ [15] (by decide +kernel) (by decide +kernel)
set_option maxRecDepth 20000 in
theorem gX4_node_X4_within : GoodIn wsX4_node (va_wsS RX4 114 yX4_within wsX4_within) := goodIn_app (goodIn_of _ (by decide +kernel)) ggX4_node_X4_within
set_option maxRecDepth 20000 in
theorem ggX4_node_X4_counted : GoodIn wsX4_node wsX4_counted := goodIn_r _ [20, 21, 22, 23, 67, 68, 69, 70, 71, 72, 73, 74, 75, 76, 77] (by decide +kernel) (by decide +kernel)
set_option maxRecDepth 20000 in
theorem gX4_node_X4_counted : GoodIn wsX4_node (wsV RX4 98 RX4 yX4_counted wsX4_counted) := goodIn_app (goodIn_of _ (by decide +kernel)) ggX4_node_X4_counted
set_option maxRecDepth 20000 in
theorem ggX4_node_X2_follow : GoodIn wsX4_node wsX2_follow := goodIn_r _ [28, 29, 30, 31, 32, 33, 34, 35, 36, 37, 38, 39, 40, 41, 42, 27, 43, 44, 45, 46, 47, 48, 49, 50, 10, 51, 52, 53, 54, 55, 56, 57, 58, 59, 60, 61, 62, 63, 64, 65, 66, 82, 83, 84, 85, 78, 79, 80, 81] (by decide +kernel) (by decide +kernel)
set_option maxRecDepth 20000 in
theorem gX4_node_X2_follow : GoodIn wsX4_node (wsV RX4 128 RX2 yX2_follow wsX2_follow) := goodIn_app (goodIn_of _ (by decide +kernel)) ggX4_node_X2_follow
theorem dX4_node_0 : decode cX4_node 0 = .ok (.aload_n 0, 1) := by decide +kernel
theorem dX4_node_1 : decode cX4_node 1 = .ok (.getfield 12, 3) := by decide +kernel
theorem dX4_node_4 : decode cX4_node 4 = .ok (.iload_n 1, 1) := by decide +kernel
theorem dX4_node_5 : decode cX4_node 5 = .ok (.invokevirtual 125, 3) := by decide +kernel
theorem dX4_node_8 : decode cX4_node 8 = .ok (.ifCond .eq 12, 3) := by decide +kernel
theorem dX4_node_11 : decode cX4_node 11 = .ok (.iload_n 2, 1) := by decide +kernel
theorem dX4_node_12 : decode cX4_node 12 = .ok (.iconst 0, 1) := by decide +kernel
theorem dX4_node_13 : decode cX4_node 13 = .ok (.iconst 1, 1) := by decide +kernel
theorem dX4_node_14 : decode cX4_node 14 = .ok (.invokestatic 114, 3) := by decide +kernel
theorem dX4_node_17 : decode cX4_node 17 = .ok (.ifCond .ne 10, 3) := by decide +kernel
theorem dX4_node_20 : decode cX4_node 20 = .ok (.aload_n 0, 1) := by decide +kernel
theorem dX4_node_21 : decode cX4_node 21 = .ok (.ldc 118, 2) := by decide +kernel
theorem dX4_node_23 : decode cX4_node 23 = .ok (.invokevirtual 98, 3) := by decide +kernel
theorem dX4_node_26 : decode cX4_node 26 = .ok (.ireturn, 1) := by decide +kernel
theorem dX4_node_27 : decode cX4_node 27 = .ok (.aload_n 0, 1) := by decide +kernel
theorem dX4_node_28 : decode cX4_node 28 = .ok (.getfield 49, 3) := by decide +kernel
theorem dX4_node_31 : decode cX4_node 31 = .ok (.aload_n 0, 1) := by decide +kernel
theorem dX4_node_32 : decode cX4_node 32 = .ok (.getfield 12, 3) := by decide +kernel
theorem dX4_node_35 : decode cX4_node 35 = .ok (.aload_n 0, 1) := by decide +kernel
theorem dX4_node_36 : decode cX4_node 36 = .ok (.getfield 12, 3) := by decide +kernel
theorem dX4_node_39 : decode cX4_node 39 = .ok (.getfield 88, 3) := by decide +kernel
theorem dX4_node_42 : decode cX4_node 42 = .ok (.iconst 0, 1) := by decide +kernel
theorem dX4_node_43 : decode cX4_node 43 = .ok (.iaload, 1) := by decide +kernel
theorem dX4_node_44 : decode cX4_node 44 = .ok (.invokevirtual 128, 3) := by decide +kernel
theorem dX4_node_47 : decode cX4_node 47 = .ok (.iload_n 2, 1) := by decide +kernel
theorem dX4_node_48 : decode cX4_node 48 = .ok (.ifCond .ne 15, 3) := by decide +kernel
theorem dX4_node_51 : decode cX4_node 51 = .ok (.aload_n 0, 1) := by decide +kernel
theorem dX4_node_52 : decode cX4_node 52 = .ok (.getfield 49, 3) := by decide +kernel
theorem dX4_node_55 : decode cX4_node 55 = .ok (.getfield 132, 3) := by decide +kernel
theorem dX4_node_58 : decode cX4_node 58 = .ok (.iload_n 1, 1) := by decide +kernel
theorem dX4_node_59 : decode cX4_node 59 = .ok (.iaload, 1) := by decide +kernel
theorem dX4_node_60 : decode cX4_node 60 = .ok (.goto 12, 3) := by decide +kernel
theorem dX4_node_63 : decode cX4_node 63 = .ok (.aload_n 0, 1) := by decide +kernel
theorem dX4_node_64 : decode cX4_node 64 = .ok (.getfield 49, 3) := by decide +kernel
theorem dX4_node_67 : decode cX4_node 67 = .ok (.getfield 135, 3) := by decide +kernel
theorem dX4_node_70 : decode cX4_node 70 = .ok (.iload_n 1, 1) := by decide +kernel
theorem dX4_node_71 : decode cX4_node 71 = .ok (.iaload, 1) := by decide +kernel
theorem dX4_node_72 : decode cX4_node 72 = .ok (.ireturn, 1) := by decide +kernel
set_option maxRecDepth 20000 in
theorem ggX4_run_X4_within : GoodIn wsX4_run wsX4_within := goodIn_r _ [12] (by decide +kernel) (by decide +kernel)
set_option maxRecDepth 20000 in
theorem gX4_run_X4_within : GoodIn wsX4_run (va_wsS RX4 114 yX4_within wsX4_within) := goodIn_app (goodIn_of _ (by decide +kernel)) ggX4_run_X4_within
set_option maxRecDepth 20000 in
theorem ggX4_run_X4_counted : GoodIn wsX4_run wsX4_counted := goodIn_r _ [16, 17, 18, 19, 64, 65, 66, 67, 68, 69, 70, 71, 72, 73, 74] (by decide +kernel) (by decide +kernel)
set_option maxRecDepth 20000 in
theorem gX4_run_X4_counted : GoodIn wsX4_run (wsV RX4 98 RX4 yX4_counted wsX4_counted) := goodIn_app (goodIn_of _ (by decide +kernel)) ggX4_run_X4_counted
set_option maxRecDepth 20000 in
theorem ggX4_run_X2_follow : GoodIn wsX4_run wsX2_follow := goodIn_r _ [24, 25, 26, 27, 28, 29, 30, 31, 32, 33, 34, 35, 36, 37, 38, 23, 39, 40, 41, 42, 43, 44, 45, 46, 47, 48, 49, 50, 51, 52, 53, 54, 55, 56, 57, 58, 59, 60, 61, 62, 63, 79, 80, 81, 82, 75, 76, 77, 78] (by decide +kernel) (by decide +kernel)
set_option maxRecDepth 20000 in
theorem gX4_run_X2_follow : GoodIn wsX4_run (wsV RX4 128 RX2 yX2_follow wsX2_follow) := goodIn_app (goodIn_of _ (by decide +kernel)) ggX4_run_X2_follow
theorem dX4_run_0 : decode cX4_run 0 = .ok (.iload_n 1, 1) := by decide +kernel
theorem dX4_run_1 : decode cX4_run 1 = .ok (.iconst 0, 1) := by decide +kernel
theorem dX4_run_2 : decode cX4_run 2 = .ok (.iconst 2, 1) := by decide +kernel
theorem dX4_run_3 : decode cX4_run 3 = .ok (.invokestatic 114, 3) := by decide +kernel
theorem dX4_run_6 : decode cX4_run 6 = .ok (.ifCond .ne 10, 3) := by decide +kernel
theorem dX4_run_9 : decode cX4_run 9 = .ok (.aload_n 0, 1) := by decide +kernel
theorem dX4_run_10 : decode cX4_run 10 = .ok (.ldc 118, 2) := by decide +kernel
theorem dX4_run_12 : decode cX4_run 12 = .ok (.invokevirtual 98, 3) := by decide +kernel
theorem dX4_run_15 : decode cX4_run 15 = .ok (.ireturn, 1) := by decide +kernel
theorem dX4_run_16 : decode cX4_run 16 = .ok (.aload_n 0, 1) := by decide +kernel
theorem dX4_run_17 : decode cX4_run 17 = .ok (.getfield 49, 3) := by decide +kernel
theorem dX4_run_20 : decode cX4_run 20 = .ok (.aload_n 0, 1) := by decide +kernel
theorem dX4_run_21 : decode cX4_run 21 = .ok (.getfield 12, 3) := by decide +kernel
theorem dX4_run_24 : decode cX4_run 24 = .ok (.aload_n 0, 1) := by decide +kernel
theorem dX4_run_25 : decode cX4_run 25 = .ok (.getfield 12, 3) := by decide +kernel
theorem dX4_run_28 : decode cX4_run 28 = .ok (.getfield 88, 3) := by decide +kernel
theorem dX4_run_31 : decode cX4_run 31 = .ok (.iconst 0, 1) := by decide +kernel
theorem dX4_run_32 : decode cX4_run 32 = .ok (.iaload, 1) := by decide +kernel
theorem dX4_run_33 : decode cX4_run 33 = .ok (.invokevirtual 128, 3) := by decide +kernel
theorem dX4_run_36 : decode cX4_run 36 = .ok (.iload_n 1, 1) := by decide +kernel
theorem dX4_run_37 : decode cX4_run 37 = .ok (.lookupswitch 43 #[(0, 27), (1, 35)], 27) := by decide +kernel
theorem dX4_run_64 : decode cX4_run 64 = .ok (.aload_n 0, 1) := by decide +kernel
theorem dX4_run_65 : decode cX4_run 65 = .ok (.getfield 49, 3) := by decide +kernel
theorem dX4_run_68 : decode cX4_run 68 = .ok (.getfield 138, 3) := by decide +kernel
theorem dX4_run_71 : decode cX4_run 71 = .ok (.ireturn, 1) := by decide +kernel
theorem dX4_run_72 : decode cX4_run 72 = .ok (.aload_n 0, 1) := by decide +kernel
theorem dX4_run_73 : decode cX4_run 73 = .ok (.getfield 49, 3) := by decide +kernel
theorem dX4_run_76 : decode cX4_run 76 = .ok (.getfield 141, 3) := by decide +kernel
theorem dX4_run_79 : decode cX4_run 79 = .ok (.ireturn, 1) := by decide +kernel
theorem dX4_run_80 : decode cX4_run 80 = .ok (.aload_n 0, 1) := by decide +kernel
theorem dX4_run_81 : decode cX4_run 81 = .ok (.getfield 49, 3) := by decide +kernel
theorem dX4_run_84 : decode cX4_run 84 = .ok (.getfield 135, 3) := by decide +kernel
theorem dX4_run_87 : decode cX4_run 87 = .ok (.aload_n 0, 1) := by decide +kernel
theorem dX4_run_88 : decode cX4_run 88 = .ok (.getfield 12, 3) := by decide +kernel
theorem dX4_run_91 : decode cX4_run 91 = .ok (.getfield 144, 3) := by decide +kernel
theorem dX4_run_94 : decode cX4_run 94 = .ok (.iaload, 1) := by decide +kernel
theorem dX4_run_95 : decode cX4_run 95 = .ok (.ireturn, 1) := by decide +kernel
set_option maxRecDepth 20000 in
theorem ggX4_fewest_X4_within : GoodIn wsX4_fewest wsX4_within := goodIn_r _ [9] (by decide +kernel) (by decide +kernel)
set_option maxRecDepth 20000 in
theorem gX4_fewest_X4_within : GoodIn wsX4_fewest (va_wsS RX4 114 yX4_within wsX4_within) := goodIn_app (goodIn_of _ (by decide +kernel)) ggX4_fewest_X4_within
set_option maxRecDepth 20000 in
theorem ggX4_fewest_X4_counted : GoodIn wsX4_fewest wsX4_counted := goodIn_r _ [13, 14, 15, 16, 59, 60, 61, 62, 63, 64, 65, 66, 67, 68, 69] (by decide +kernel) (by decide +kernel)
set_option maxRecDepth 20000 in
theorem gX4_fewest_X4_counted : GoodIn wsX4_fewest (wsV RX4 98 RX4 yX4_counted wsX4_counted) := goodIn_app (goodIn_of _ (by decide +kernel)) ggX4_fewest_X4_counted
set_option maxRecDepth 20000 in
theorem ggX4_fewest_X1_bestSet : GoodIn wsX4_fewest wsX1_bestSet := goodIn_r _ [21, 22, 23, 24, 25, 26, 27, 28, 29, 30, 31, 32, 20, 33, 34, 35, 36, 37, 38, 39, 40, 41, 42, 43, 44, 45, 46, 47, 48, 49, 50, 51, 52, 70, 71, 72, 73, 74] (by decide +kernel) (by decide +kernel)
set_option maxRecDepth 20000 in
theorem gX4_fewest_X1_bestSet : GoodIn wsX4_fewest (wsV RX4 92 RX1 yX1_bestSet wsX1_bestSet) := goodIn_app (goodIn_of _ (by decide +kernel)) ggX4_fewest_X1_bestSet
set_option maxRecDepth 20000 in
theorem ggX4_fewest_X4_sizeOf : GoodIn wsX4_fewest wsX4_sizeOf := goodIn_r _ [55] (by decide +kernel) (by decide +kernel)
set_option maxRecDepth 20000 in
theorem gX4_fewest_X4_sizeOf : GoodIn wsX4_fewest (va_wsS RX4 107 yX4_sizeOf wsX4_sizeOf) := goodIn_app (goodIn_of _ (by decide +kernel)) ggX4_fewest_X4_sizeOf
set_option maxRecDepth 20000 in
theorem ggX4_fewest_X4_bitsOf : GoodIn wsX4_fewest wsX4_bitsOf := goodIn_r _ [58] (by decide +kernel) (by decide +kernel)
set_option maxRecDepth 20000 in
theorem gX4_fewest_X4_bitsOf : GoodIn wsX4_fewest (va_wsS RX4 101 yX4_bitsOf wsX4_bitsOf) := goodIn_app (goodIn_of _ (by decide +kernel)) ggX4_fewest_X4_bitsOf
theorem dX4_fewest_0 : decode cX4_fewest 0 = .ok (.iload_n 1, 1) := by decide +kernel
theorem dX4_fewest_1 : decode cX4_fewest 1 = .ok (.iconst 1, 1) := by decide +kernel
theorem dX4_fewest_2 : decode cX4_fewest 2 = .ok (.bipush 30, 2) := by decide +kernel
theorem dX4_fewest_4 : decode cX4_fewest 4 = .ok (.invokestatic 114, 3) := by decide +kernel
theorem dX4_fewest_7 : decode cX4_fewest 7 = .ok (.ifCond .eq 12, 3) := by decide +kernel
theorem dX4_fewest_10 : decode cX4_fewest 10 = .ok (.iload_n 2, 1) := by decide +kernel
theorem dX4_fewest_11 : decode cX4_fewest 11 = .ok (.iconst 0, 1) := by decide +kernel
theorem dX4_fewest_12 : decode cX4_fewest 12 = .ok (.iconst 1, 1) := by decide +kernel
theorem dX4_fewest_13 : decode cX4_fewest 13 = .ok (.invokestatic 114, 3) := by decide +kernel
theorem dX4_fewest_16 : decode cX4_fewest 16 = .ok (.ifCond .ne 10, 3) := by decide +kernel
theorem dX4_fewest_19 : decode cX4_fewest 19 = .ok (.aload_n 0, 1) := by decide +kernel
theorem dX4_fewest_20 : decode cX4_fewest 20 = .ok (.ldc 118, 2) := by decide +kernel
theorem dX4_fewest_22 : decode cX4_fewest 22 = .ok (.invokevirtual 98, 3) := by decide +kernel
theorem dX4_fewest_25 : decode cX4_fewest 25 = .ok (.ireturn, 1) := by decide +kernel
theorem dX4_fewest_26 : decode cX4_fewest 26 = .ok (.aload_n 0, 1) := by decide +kernel
theorem dX4_fewest_27 : decode cX4_fewest 27 = .ok (.getfield 56, 3) := by decide +kernel
theorem dX4_fewest_30 : decode cX4_fewest 30 = .ok (.aload_n 0, 1) := by decide +kernel
theorem dX4_fewest_31 : decode cX4_fewest 31 = .ok (.getfield 12, 3) := by decide +kernel
theorem dX4_fewest_34 : decode cX4_fewest 34 = .ok (.iload_n 1, 1) := by decide +kernel
theorem dX4_fewest_35 : decode cX4_fewest 35 = .ok (.invokevirtual 92, 3) := by decide +kernel
theorem dX4_fewest_38 : decode cX4_fewest 38 = .ok (.istore_n 3, 1) := by decide +kernel
theorem dX4_fewest_39 : decode cX4_fewest 39 = .ok (.iload_n 3, 1) := by decide +kernel
theorem dX4_fewest_40 : decode cX4_fewest 40 = .ok (.ldc 96, 2) := by decide +kernel
theorem dX4_fewest_42 : decode cX4_fewest 42 = .ok (.if_icmp .ne 6, 3) := by decide +kernel
theorem dX4_fewest_45 : decode cX4_fewest 45 = .ok (.ldc 147, 2) := by decide +kernel
theorem dX4_fewest_47 : decode cX4_fewest 47 = .ok (.ireturn, 1) := by decide +kernel
theorem dX4_fewest_48 : decode cX4_fewest 48 = .ok (.iload_n 2, 1) := by decide +kernel
theorem dX4_fewest_49 : decode cX4_fewest 49 = .ok (.ifCond .ne 10, 3) := by decide +kernel
theorem dX4_fewest_52 : decode cX4_fewest 52 = .ok (.iload_n 3, 1) := by decide +kernel
theorem dX4_fewest_53 : decode cX4_fewest 53 = .ok (.invokestatic 107, 3) := by decide +kernel
theorem dX4_fewest_56 : decode cX4_fewest 56 = .ok (.goto 7, 3) := by decide +kernel
theorem dX4_fewest_59 : decode cX4_fewest 59 = .ok (.iload_n 3, 1) := by decide +kernel
theorem dX4_fewest_60 : decode cX4_fewest 60 = .ok (.invokestatic 101, 3) := by decide +kernel
theorem dX4_fewest_63 : decode cX4_fewest 63 = .ok (.ireturn, 1) := by decide +kernel
set_option maxRecDepth 20000 in
theorem ggX4_most_X2_follow : GoodIn wsX4_most wsX2_follow := goodIn_r _ [9, 10, 11, 12, 13, 14, 15, 16, 17, 18, 19, 20, 21, 22, 23, 8, 24, 25, 26, 27, 28, 29, 30, 31, 32, 33, 34, 35, 36, 37, 38, 39, 40, 41, 42, 43, 44, 45, 46, 47, 48, 60, 61, 62, 63, 64, 65, 66, 67] (by decide +kernel) (by decide +kernel)
set_option maxRecDepth 20000 in
theorem gX4_most_X2_follow : GoodIn wsX4_most (wsV RX4 128 RX2 yX2_follow wsX2_follow) := goodIn_app (goodIn_of _ (by decide +kernel)) ggX4_most_X2_follow
theorem dX4_most_0 : decode cX4_most 0 = .ok (.bipush 30, 2) := by decide +kernel
theorem dX4_most_2 : decode cX4_most 2 = .ok (.istore_n 1, 1) := by decide +kernel
theorem dX4_most_3 : decode cX4_most 3 = .ok (.iload_n 1, 1) := by decide +kernel
theorem dX4_most_4 : decode cX4_most 4 = .ok (.iconst 1, 1) := by decide +kernel
theorem dX4_most_5 : decode cX4_most 5 = .ok (.if_icmp .lt 33, 3) := by decide +kernel
theorem dX4_most_8 : decode cX4_most 8 = .ok (.aload_n 0, 1) := by decide +kernel
theorem dX4_most_9 : decode cX4_most 9 = .ok (.getfield 49, 3) := by decide +kernel
theorem dX4_most_12 : decode cX4_most 12 = .ok (.aload_n 0, 1) := by decide +kernel
theorem dX4_most_13 : decode cX4_most 13 = .ok (.getfield 12, 3) := by decide +kernel
theorem dX4_most_16 : decode cX4_most 16 = .ok (.iload_n 1, 1) := by decide +kernel
theorem dX4_most_17 : decode cX4_most 17 = .ok (.invokevirtual 128, 3) := by decide +kernel
theorem dX4_most_20 : decode cX4_most 20 = .ok (.aload_n 0, 1) := by decide +kernel
theorem dX4_most_21 : decode cX4_most 21 = .ok (.getfield 49, 3) := by decide +kernel
theorem dX4_most_24 : decode cX4_most 24 = .ok (.getfield 141, 3) := by decide +kernel
theorem dX4_most_27 : decode cX4_most 27 = .ok (.ifCond .ne 5, 3) := by decide +kernel
theorem dX4_most_30 : decode cX4_most 30 = .ok (.iload_n 1, 1) := by decide +kernel
theorem dX4_most_31 : decode cX4_most 31 = .ok (.ireturn, 1) := by decide +kernel
theorem dX4_most_32 : decode cX4_most 32 = .ok (.iinc 1 (-1), 3) := by decide +kernel
theorem dX4_most_35 : decode cX4_most 35 = .ok (.goto (-32), 3) := by decide +kernel
theorem dX4_most_38 : decode cX4_most 38 = .ok (.ldc 147, 2) := by decide +kernel
theorem dX4_most_40 : decode cX4_most 40 = .ok (.ireturn, 1) := by decide +kernel
set_option maxRecDepth 20000 in
theorem ggX4_count_X4_within : GoodIn wsX4_count wsX4_within := goodIn_r _ [9] (by decide +kernel) (by decide +kernel)
set_option maxRecDepth 20000 in
theorem gX4_count_X4_within : GoodIn wsX4_count (va_wsS RX4 114 yX4_within wsX4_within) := goodIn_app (goodIn_of _ (by decide +kernel)) ggX4_count_X4_within
set_option maxRecDepth 20000 in
theorem ggX4_count_X4_counted : GoodIn wsX4_count wsX4_counted := goodIn_r _ [13, 14, 15, 16, 43, 44, 45, 46, 47, 48, 49, 50, 51, 52, 53] (by decide +kernel) (by decide +kernel)
set_option maxRecDepth 20000 in
theorem gX4_count_X4_counted : GoodIn wsX4_count (wsV RX4 98 RX4 yX4_counted wsX4_counted) := goodIn_app (goodIn_of _ (by decide +kernel)) ggX4_count_X4_counted
set_option maxRecDepth 20000 in
theorem ggX4_count_J6_bitCount_0f7a4 : GoodIn wsX4_count wsJ6_bitCount_0f7a4 := goodIn_r _ [20, 21, 22, 23] (by decide +kernel) (by decide +kernel)
set_option maxRecDepth 20000 in
theorem gX4_count_J6_bitCount_0f7a4 : GoodIn wsX4_count (va_wsS RX4 148 yJ6_bitCount_0f7a4 wsJ6_bitCount_0f7a4) := goodIn_app (goodIn_of _ (by decide +kernel)) ggX4_count_J6_bitCount_0f7a4
set_option maxRecDepth 20000 in
theorem ggX4_count_X0_burstSpans : GoodIn wsX4_count wsX0_burstSpans := goodIn_r _ [28, 29, 30, 31, 32, 27, 33, 34, 54, 55, 56, 57] (by decide +kernel) (by decide +kernel)
set_option maxRecDepth 20000 in
theorem gX4_count_X0_burstSpans : GoodIn wsX4_count (wsV RX4 153 RX0 yX0_burstSpans wsX0_burstSpans) := goodIn_app (goodIn_of _ (by decide +kernel)) ggX4_count_X0_burstSpans
set_option maxRecDepth 20000 in
theorem ggX4_count_X0_allLengths : GoodIn wsX4_count wsX0_allLengths := goodIn_r _ [38, 29, 39, 40, 41, 27, 42, 30, 31, 32, 33, 34, 54, 55, 56, 57] (by decide +kernel) (by decide +kernel)
set_option maxRecDepth 20000 in
theorem gX4_count_X0_allLengths : GoodIn wsX4_count (wsV RX4 156 RX0 yX0_allLengths wsX0_allLengths) := goodIn_app (goodIn_of _ (by decide +kernel)) ggX4_count_X0_allLengths
theorem dX4_count_0 : decode cX4_count 0 = .ok (.iload_n 1, 1) := by decide +kernel
theorem dX4_count_1 : decode cX4_count 1 = .ok (.iconst 0, 1) := by decide +kernel
theorem dX4_count_2 : decode cX4_count 2 = .ok (.bipush 10, 2) := by decide +kernel
theorem dX4_count_4 : decode cX4_count 4 = .ok (.invokestatic 114, 3) := by decide +kernel
theorem dX4_count_7 : decode cX4_count 7 = .ok (.ifCond .ne 10, 3) := by decide +kernel
theorem dX4_count_10 : decode cX4_count 10 = .ok (.aload_n 0, 1) := by decide +kernel
theorem dX4_count_11 : decode cX4_count 11 = .ok (.ldc 118, 2) := by decide +kernel
theorem dX4_count_13 : decode cX4_count 13 = .ok (.invokevirtual 98, 3) := by decide +kernel
theorem dX4_count_16 : decode cX4_count 16 = .ok (.ireturn, 1) := by decide +kernel
theorem dX4_count_17 : decode cX4_count 17 = .ok (.iload_n 1, 1) := by decide +kernel
theorem dX4_count_18 : decode cX4_count 18 = .ok (.tableswitch 101 0 10 #[58, 69, 77, 85, 101, 101, 101, 101, 101, 101, 93], 58) := by decide +kernel
theorem dX4_count_76 : decode cX4_count 76 = .ok (.aload_n 0, 1) := by decide +kernel
theorem dX4_count_77 : decode cX4_count 77 = .ok (.getfield 12, 3) := by decide +kernel
theorem dX4_count_80 : decode cX4_count 80 = .ok (.getfield 104, 3) := by decide +kernel
theorem dX4_count_83 : decode cX4_count 83 = .ok (.invokestatic 148, 3) := by decide +kernel
theorem dX4_count_86 : decode cX4_count 86 = .ok (.ireturn, 1) := by decide +kernel
theorem dX4_count_87 : decode cX4_count 87 = .ok (.aload_n 0, 1) := by decide +kernel
theorem dX4_count_88 : decode cX4_count 88 = .ok (.getfield 12, 3) := by decide +kernel
theorem dX4_count_91 : decode cX4_count 91 = .ok (.getfield 104, 3) := by decide +kernel
theorem dX4_count_94 : decode cX4_count 94 = .ok (.ireturn, 1) := by decide +kernel
theorem dX4_count_95 : decode cX4_count 95 = .ok (.aload_n 0, 1) := by decide +kernel
theorem dX4_count_96 : decode cX4_count 96 = .ok (.getfield 12, 3) := by decide +kernel
theorem dX4_count_99 : decode cX4_count 99 = .ok (.getfield 144, 3) := by decide +kernel
theorem dX4_count_102 : decode cX4_count 102 = .ok (.ireturn, 1) := by decide +kernel
theorem dX4_count_103 : decode cX4_count 103 = .ok (.aload_n 0, 1) := by decide +kernel
theorem dX4_count_104 : decode cX4_count 104 = .ok (.getfield 12, 3) := by decide +kernel
theorem dX4_count_107 : decode cX4_count 107 = .ok (.invokevirtual 153, 3) := by decide +kernel
theorem dX4_count_110 : decode cX4_count 110 = .ok (.ireturn, 1) := by decide +kernel
theorem dX4_count_111 : decode cX4_count 111 = .ok (.aload_n 0, 1) := by decide +kernel
theorem dX4_count_112 : decode cX4_count 112 = .ok (.getfield 12, 3) := by decide +kernel
theorem dX4_count_115 : decode cX4_count 115 = .ok (.invokevirtual 156, 3) := by decide +kernel
theorem dX4_count_118 : decode cX4_count 118 = .ok (.ireturn, 1) := by decide +kernel
theorem dX4_count_119 : decode cX4_count 119 = .ok (.aload_n 0, 1) := by decide +kernel
theorem dX4_count_120 : decode cX4_count 120 = .ok (.getfield 12, 3) := by decide +kernel
theorem dX4_count_123 : decode cX4_count 123 = .ok (.getfield 88, 3) := by decide +kernel
theorem dX4_count_126 : decode cX4_count 126 = .ok (.iload_n 1, 1) := by decide +kernel
theorem dX4_count_127 : decode cX4_count 127 = .ok (.iconst 4, 1) := by decide +kernel
theorem dX4_count_128 : decode cX4_count 128 = .ok (.isub, 1) := by decide +kernel
theorem dX4_count_129 : decode cX4_count 129 = .ok (.iaload, 1) := by decide +kernel
theorem dX4_count_130 : decode cX4_count 130 = .ok (.ireturn, 1) := by decide +kernel
set_option maxRecDepth 20000 in
theorem ggX4_shuttle_X4_within : GoodIn wsX4_shuttle wsX4_within := goodIn_r _ [5] (by decide +kernel) (by decide +kernel)
set_option maxRecDepth 20000 in
theorem gX4_shuttle_X4_within : GoodIn wsX4_shuttle (va_wsS RX4 114 yX4_within wsX4_within) := goodIn_app (goodIn_of _ (by decide +kernel)) ggX4_shuttle_X4_within
set_option maxRecDepth 20000 in
theorem ggX4_shuttle_X4_isTrip : GoodIn wsX4_shuttle wsX4_isTrip := goodIn_r _ [8, 2, 3, 4, 5] (by decide +kernel) (by decide +kernel)
set_option maxRecDepth 20000 in
theorem gX4_shuttle_X4_isTrip : GoodIn wsX4_shuttle (va_wsS RX4 159 yX4_isTrip wsX4_isTrip) := goodIn_app (goodIn_of _ (by decide +kernel)) ggX4_shuttle_X4_isTrip
set_option maxRecDepth 20000 in
theorem ggX4_shuttle_X4_counted : GoodIn wsX4_shuttle wsX4_counted := goodIn_r _ [12, 13, 14, 15, 23, 24, 25, 26, 27, 28, 29, 30, 31, 32, 33] (by decide +kernel) (by decide +kernel)
set_option maxRecDepth 20000 in
theorem gX4_shuttle_X4_counted : GoodIn wsX4_shuttle (wsV RX4 98 RX4 yX4_counted wsX4_counted) := goodIn_app (goodIn_of _ (by decide +kernel)) ggX4_shuttle_X4_counted
set_option maxRecDepth 20000 in
theorem ggX4_shuttle_X4_broughtInHour : GoodIn wsX4_shuttle wsX4_broughtInHour := goodIn_r _ [18, 19, 20, 21, 22] (by decide +kernel) (by decide +kernel)
set_option maxRecDepth 20000 in
theorem gX4_shuttle_X4_broughtInHour : GoodIn wsX4_shuttle (va_wsS RX4 163 yX4_broughtInHour wsX4_broughtInHour) := goodIn_app (goodIn_of _ (by decide +kernel)) ggX4_shuttle_X4_broughtInHour
theorem dX4_shuttle_0 : decode cX4_shuttle 0 = .ok (.iload_n 1, 1) := by decide +kernel
theorem dX4_shuttle_1 : decode cX4_shuttle 1 = .ok (.iconst 1, 1) := by decide +kernel
theorem dX4_shuttle_2 : decode cX4_shuttle 2 = .ok (.bipush 20, 2) := by decide +kernel
theorem dX4_shuttle_4 : decode cX4_shuttle 4 = .ok (.invokestatic 114, 3) := by decide +kernel
theorem dX4_shuttle_7 : decode cX4_shuttle 7 = .ok (.ifCond .eq 15, 3) := by decide +kernel
theorem dX4_shuttle_10 : decode cX4_shuttle 10 = .ok (.iload_n 2, 1) := by decide +kernel
theorem dX4_shuttle_11 : decode cX4_shuttle 11 = .ok (.iload_n 3, 1) := by decide +kernel
theorem dX4_shuttle_12 : decode cX4_shuttle 12 = .ok (.iload 4, 2) := by decide +kernel
theorem dX4_shuttle_14 : decode cX4_shuttle 14 = .ok (.iload 5, 2) := by decide +kernel
theorem dX4_shuttle_16 : decode cX4_shuttle 16 = .ok (.invokestatic 159, 3) := by decide +kernel
theorem dX4_shuttle_19 : decode cX4_shuttle 19 = .ok (.ifCond .ne 10, 3) := by decide +kernel
theorem dX4_shuttle_22 : decode cX4_shuttle 22 = .ok (.aload_n 0, 1) := by decide +kernel
theorem dX4_shuttle_23 : decode cX4_shuttle 23 = .ok (.ldc 118, 2) := by decide +kernel
theorem dX4_shuttle_25 : decode cX4_shuttle 25 = .ok (.invokevirtual 98, 3) := by decide +kernel
theorem dX4_shuttle_28 : decode cX4_shuttle 28 = .ok (.ireturn, 1) := by decide +kernel
theorem dX4_shuttle_29 : decode cX4_shuttle 29 = .ok (.iload_n 1, 1) := by decide +kernel
theorem dX4_shuttle_30 : decode cX4_shuttle 30 = .ok (.iload_n 2, 1) := by decide +kernel
theorem dX4_shuttle_31 : decode cX4_shuttle 31 = .ok (.iload_n 3, 1) := by decide +kernel
theorem dX4_shuttle_32 : decode cX4_shuttle 32 = .ok (.iload 4, 2) := by decide +kernel
theorem dX4_shuttle_34 : decode cX4_shuttle 34 = .ok (.iload 5, 2) := by decide +kernel
theorem dX4_shuttle_36 : decode cX4_shuttle 36 = .ok (.invokestatic 163, 3) := by decide +kernel
theorem dX4_shuttle_39 : decode cX4_shuttle 39 = .ok (.ireturn, 1) := by decide +kernel
set_option maxRecDepth 20000 in
theorem ggX4_tanks_X4_within : GoodIn wsX4_tanks wsX4_within := goodIn_r _ [6] (by decide +kernel) (by decide +kernel)
set_option maxRecDepth 20000 in
theorem gX4_tanks_X4_within : GoodIn wsX4_tanks (va_wsS RX4 114 yX4_within wsX4_within) := goodIn_app (goodIn_of _ (by decide +kernel)) ggX4_tanks_X4_within
set_option maxRecDepth 20000 in
theorem ggX4_tanks_X4_isTrip : GoodIn wsX4_tanks wsX4_isTrip := goodIn_r _ [9, 3, 4, 5, 6] (by decide +kernel) (by decide +kernel)
set_option maxRecDepth 20000 in
theorem gX4_tanks_X4_isTrip : GoodIn wsX4_tanks (va_wsS RX4 159 yX4_isTrip wsX4_isTrip) := goodIn_app (goodIn_of _ (by decide +kernel)) ggX4_tanks_X4_isTrip
set_option maxRecDepth 20000 in
theorem ggX4_tanks_X4_counted : GoodIn wsX4_tanks wsX4_counted := goodIn_r _ [13, 14, 15, 16, 24, 25, 26, 27, 28, 29, 30, 31, 32, 33, 34] (by decide +kernel) (by decide +kernel)
set_option maxRecDepth 20000 in
theorem gX4_tanks_X4_counted : GoodIn wsX4_tanks (wsV RX4 98 RX4 yX4_counted wsX4_counted) := goodIn_app (goodIn_of _ (by decide +kernel)) ggX4_tanks_X4_counted
set_option maxRecDepth 20000 in
theorem ggX4_tanks_X4_broughtInHour : GoodIn wsX4_tanks wsX4_broughtInHour := goodIn_r _ [19, 20, 21, 22, 23] (by decide +kernel) (by decide +kernel)
set_option maxRecDepth 20000 in
theorem gX4_tanks_X4_broughtInHour : GoodIn wsX4_tanks (va_wsS RX4 163 yX4_broughtInHour wsX4_broughtInHour) := goodIn_app (goodIn_of _ (by decide +kernel)) ggX4_tanks_X4_broughtInHour
theorem dX4_tanks_0 : decode cX4_tanks 0 = .ok (.iload_n 1, 1) := by decide +kernel
theorem dX4_tanks_1 : decode cX4_tanks 1 = .ok (.iconst 1, 1) := by decide +kernel
theorem dX4_tanks_2 : decode cX4_tanks 2 = .ok (.sipush 9999, 3) := by decide +kernel
theorem dX4_tanks_5 : decode cX4_tanks 5 = .ok (.invokestatic 114, 3) := by decide +kernel
theorem dX4_tanks_8 : decode cX4_tanks 8 = .ok (.ifCond .eq 15, 3) := by decide +kernel
theorem dX4_tanks_11 : decode cX4_tanks 11 = .ok (.iload_n 2, 1) := by decide +kernel
theorem dX4_tanks_12 : decode cX4_tanks 12 = .ok (.iload_n 3, 1) := by decide +kernel
theorem dX4_tanks_13 : decode cX4_tanks 13 = .ok (.iload 4, 2) := by decide +kernel
theorem dX4_tanks_15 : decode cX4_tanks 15 = .ok (.iload 5, 2) := by decide +kernel
theorem dX4_tanks_17 : decode cX4_tanks 17 = .ok (.invokestatic 159, 3) := by decide +kernel
theorem dX4_tanks_20 : decode cX4_tanks 20 = .ok (.ifCond .ne 10, 3) := by decide +kernel
theorem dX4_tanks_23 : decode cX4_tanks 23 = .ok (.aload_n 0, 1) := by decide +kernel
theorem dX4_tanks_24 : decode cX4_tanks 24 = .ok (.ldc 118, 2) := by decide +kernel
theorem dX4_tanks_26 : decode cX4_tanks 26 = .ok (.invokevirtual 98, 3) := by decide +kernel
theorem dX4_tanks_29 : decode cX4_tanks 29 = .ok (.ireturn, 1) := by decide +kernel
theorem dX4_tanks_30 : decode cX4_tanks 30 = .ok (.iconst 1, 1) := by decide +kernel
theorem dX4_tanks_31 : decode cX4_tanks 31 = .ok (.istore 6, 2) := by decide +kernel
theorem dX4_tanks_33 : decode cX4_tanks 33 = .ok (.iload 6, 2) := by decide +kernel
theorem dX4_tanks_35 : decode cX4_tanks 35 = .ok (.bipush 20, 2) := by decide +kernel
theorem dX4_tanks_37 : decode cX4_tanks 37 = .ok (.if_icmp .gt 27, 3) := by decide +kernel
theorem dX4_tanks_40 : decode cX4_tanks 40 = .ok (.iload 6, 2) := by decide +kernel
theorem dX4_tanks_42 : decode cX4_tanks 42 = .ok (.iload_n 2, 1) := by decide +kernel
theorem dX4_tanks_43 : decode cX4_tanks 43 = .ok (.iload_n 3, 1) := by decide +kernel
theorem dX4_tanks_44 : decode cX4_tanks 44 = .ok (.iload 4, 2) := by decide +kernel
theorem dX4_tanks_46 : decode cX4_tanks 46 = .ok (.iload 5, 2) := by decide +kernel
theorem dX4_tanks_48 : decode cX4_tanks 48 = .ok (.invokestatic 163, 3) := by decide +kernel
theorem dX4_tanks_51 : decode cX4_tanks 51 = .ok (.iload_n 1, 1) := by decide +kernel
theorem dX4_tanks_52 : decode cX4_tanks 52 = .ok (.if_icmp .lt 6, 3) := by decide +kernel
theorem dX4_tanks_55 : decode cX4_tanks 55 = .ok (.iload 6, 2) := by decide +kernel
theorem dX4_tanks_57 : decode cX4_tanks 57 = .ok (.ireturn, 1) := by decide +kernel
theorem dX4_tanks_58 : decode cX4_tanks 58 = .ok (.iinc 6 1, 3) := by decide +kernel
theorem dX4_tanks_61 : decode cX4_tanks 61 = .ok (.goto (-28), 3) := by decide +kernel
theorem dX4_tanks_64 : decode cX4_tanks 64 = .ok (.ldc 147, 2) := by decide +kernel
theorem dX4_tanks_66 : decode cX4_tanks 66 = .ok (.ireturn, 1) := by decide +kernel
set_option maxRecDepth 20000 in
theorem ggX4_type_X4_within : GoodIn wsX4_type wsX4_within := goodIn_r _ [8] (by decide +kernel) (by decide +kernel)
set_option maxRecDepth 20000 in
theorem gX4_type_X4_within : GoodIn wsX4_type (va_wsS RX4 114 yX4_within wsX4_within) := goodIn_app (goodIn_of _ (by decide +kernel)) ggX4_type_X4_within
set_option maxRecDepth 20000 in
theorem ggX4_type_X4_counted : GoodIn wsX4_type wsX4_counted := goodIn_r _ [12, 13, 14, 15, 23, 24, 25, 26, 27, 28, 29, 30, 31, 32, 33] (by decide +kernel) (by decide +kernel)
set_option maxRecDepth 20000 in
theorem gX4_type_X4_counted : GoodIn wsX4_type (wsV RX4 98 RX4 yX4_counted wsX4_counted) := goodIn_app (goodIn_of _ (by decide +kernel)) ggX4_type_X4_counted
set_option maxRecDepth 20000 in
theorem ggX4_type_X3_put : GoodIn wsX4_type wsX3_put := goodIn_r _ [20, 21, 22, 34, 35, 36, 37, 38, 39] (by decide +kernel) (by decide +kernel)
set_option maxRecDepth 20000 in
theorem gX4_type_X3_put : GoodIn wsX4_type (wsV RX4 171 RX3 yX3_put wsX3_put) := goodIn_app (goodIn_of _ (by decide +kernel)) ggX4_type_X3_put
theorem dX4_type_0 : decode cX4_type 0 = .ok (.iload_n 1, 1) := by decide +kernel
theorem dX4_type_1 : decode cX4_type 1 = .ok (.iconst 0, 1) := by decide +kernel
theorem dX4_type_2 : decode cX4_type 2 = .ok (.bipush 127, 2) := by decide +kernel
theorem dX4_type_4 : decode cX4_type 4 = .ok (.invokestatic 114, 3) := by decide +kernel
theorem dX4_type_7 : decode cX4_type 7 = .ok (.ifCond .ne 10, 3) := by decide +kernel
theorem dX4_type_10 : decode cX4_type 10 = .ok (.aload_n 0, 1) := by decide +kernel
theorem dX4_type_11 : decode cX4_type 11 = .ok (.ldc 118, 2) := by decide +kernel
theorem dX4_type_13 : decode cX4_type 13 = .ok (.invokevirtual 98, 3) := by decide +kernel
theorem dX4_type_16 : decode cX4_type 16 = .ok (.ireturn, 1) := by decide +kernel
theorem dX4_type_17 : decode cX4_type 17 = .ok (.aload_n 0, 1) := by decide +kernel
theorem dX4_type_18 : decode cX4_type 18 = .ok (.getfield 42, 3) := by decide +kernel
theorem dX4_type_21 : decode cX4_type 21 = .ok (.getfield 167, 3) := by decide +kernel
theorem dX4_type_24 : decode cX4_type 24 = .ok (.bipush 120, 2) := by decide +kernel
theorem dX4_type_26 : decode cX4_type 26 = .ok (.if_icmp .lt 10, 3) := by decide +kernel
theorem dX4_type_29 : decode cX4_type 29 = .ok (.aload_n 0, 1) := by decide +kernel
theorem dX4_type_30 : decode cX4_type 30 = .ok (.ldc 170, 2) := by decide +kernel
theorem dX4_type_32 : decode cX4_type 32 = .ok (.invokevirtual 98, 3) := by decide +kernel
theorem dX4_type_35 : decode cX4_type 35 = .ok (.ireturn, 1) := by decide +kernel
theorem dX4_type_36 : decode cX4_type 36 = .ok (.aload_n 0, 1) := by decide +kernel
theorem dX4_type_37 : decode cX4_type 37 = .ok (.getfield 42, 3) := by decide +kernel
theorem dX4_type_40 : decode cX4_type 40 = .ok (.iload_n 1, 1) := by decide +kernel
theorem dX4_type_41 : decode cX4_type 41 = .ok (.invokevirtual 171, 3) := by decide +kernel
theorem dX4_type_44 : decode cX4_type 44 = .ok (.aload_n 0, 1) := by decide +kernel
theorem dX4_type_45 : decode cX4_type 45 = .ok (.getfield 42, 3) := by decide +kernel
theorem dX4_type_48 : decode cX4_type 48 = .ok (.getfield 167, 3) := by decide +kernel
theorem dX4_type_51 : decode cX4_type 51 = .ok (.ireturn, 1) := by decide +kernel
theorem dX4_clear_0 : decode cX4_clear 0 = .ok (.aload_n 0, 1) := by decide +kernel
theorem dX4_clear_1 : decode cX4_clear 1 = .ok (.getfield 42, 3) := by decide +kernel
theorem dX4_clear_4 : decode cX4_clear 4 = .ok (.getfield 167, 3) := by decide +kernel
theorem dX4_clear_7 : decode cX4_clear 7 = .ok (.istore_n 1, 1) := by decide +kernel
theorem dX4_clear_8 : decode cX4_clear 8 = .ok (.aload_n 0, 1) := by decide +kernel
theorem dX4_clear_9 : decode cX4_clear 9 = .ok (.getfield 42, 3) := by decide +kernel
theorem dX4_clear_12 : decode cX4_clear 12 = .ok (.iconst 0, 1) := by decide +kernel
theorem dX4_clear_13 : decode cX4_clear 13 = .ok (.putfield 167, 3) := by decide +kernel
theorem dX4_clear_16 : decode cX4_clear 16 = .ok (.iload_n 1, 1) := by decide +kernel
theorem dX4_clear_17 : decode cX4_clear 17 = .ok (.ireturn, 1) := by decide +kernel
set_option maxRecDepth 20000 in
theorem ggX4_does_X3_isRead : GoodIn wsX4_does wsX3_isRead := goodIn_r _ [10, 11, 12, 13, 14, 15, 16, 9, 17, 18, 19, 20, 21, 22, 23, 24, 25, 26, 27, 28, 29, 30, 31, 32, 33, 34, 35, 36, 37, 38, 39, 40, 41, 42, 158, 159, 160, 161, 162, 163] (by decide +kernel) (by decide +kernel)
set_option maxRecDepth 20000 in
theorem gX4_does_X3_isRead : GoodIn wsX4_does (wsV RX4 175 RX3 yX3_isRead wsX3_isRead) := goodIn_app (goodIn_of _ (by decide +kernel)) ggX4_does_X3_isRead
set_option maxRecDepth 20000 in
theorem ggX4_does_X4_keepBefore : GoodIn wsX4_does wsX4_keepBefore := goodIn_r _ [46, 5, 4, 47, 48, 49, 50, 51, 52, 53, 54, 55, 56, 57, 58, 59, 147, 148, 149, 150, 151, 152, 153, 154, 155, 156, 157, 164, 165, 166, 167] (by decide +kernel) (by decide +kernel)
set_option maxRecDepth 20000 in
theorem gX4_does_X4_keepBefore : GoodIn wsX4_does (wsV RX4 60 RX4 yX4_keepBefore wsX4_keepBefore) := goodIn_app (goodIn_of _ (by decide +kernel)) ggX4_does_X4_keepBefore
set_option maxRecDepth 20000 in
theorem ggX4_does_X4_obeyed : GoodIn wsX4_does wsX4_obeyed := goodIn_r _ [63, 1, 64, 4, 65, 66, 67, 9, 68, 35, 69, 70, 71, 50, 72, 73, 52, 74, 40, 41, 42, 75, 76, 77, 78, 54, 79, 80, 81, 82, 59, 83, 84, 85, 86, 53, 87, 88, 89, 90, 91, 92, 93, 94, 95, 96, 97, 98, 99, 100, 101, 102, 103, 104, 105, 106, 107, 108, 109, 110, 111, 112, 113, 114, 115, 116, 117, 118, 119, 120, 121, 122, 147, 148, 149, 150, 151, 152, 153, 154, 155, 156, 157, 158, 159, 160, 161, 162, 163, 164, 165, 166, 167] (by decide +kernel) (by decide +kernel)
set_option maxRecDepth 20000 in
theorem gX4_does_X4_obeyed : GoodIn wsX4_does (wsV RX4 185 RX4 yX4_obeyed wsX4_obeyed) := goodIn_app (goodIn_of _ (by decide +kernel)) ggX4_does_X4_obeyed
set_option maxRecDepth 20000 in
theorem ggX4_does_X4_isRefusal : GoodIn wsX4_does wsX4_isRefusal := goodIn_r _ [125, 126, 127, 128] (by decide +kernel) (by decide +kernel)
set_option maxRecDepth 20000 in
theorem gX4_does_X4_isRefusal : GoodIn wsX4_does (va_wsS RX4 188 yX4_isRefusal wsX4_isRefusal) := goodIn_app (goodIn_of _ (by decide +kernel)) ggX4_does_X4_isRefusal
set_option maxRecDepth 20000 in
theorem ggX4_does_X0_copyFrom : GoodIn wsX4_does wsX0_copyFrom := goodIn_r _ [51, 52, 53, 54, 55, 56, 57, 58, 59, 164, 165, 166, 167] (by decide +kernel) (by decide +kernel)
set_option maxRecDepth 20000 in
theorem gX4_does_X0_copyFrom : GoodIn wsX4_does (wsV RX4 191 RX0 yX0_copyFrom wsX0_copyFrom) := goodIn_app (goodIn_of _ (by decide +kernel)) ggX4_does_X0_copyFrom
set_option maxRecDepth 20000 in
theorem ggX4_does_X4_settled : GoodIn wsX4_does wsX4_settled := goodIn_r _ [132, 133, 134, 5, 135, 136, 137, 138, 139, 123, 124, 41, 125, 126, 127, 128, 140, 141, 142, 143, 144, 145, 146, 47, 48, 49, 50, 51, 52, 53, 54, 55, 56, 57, 58, 59, 147, 148, 149, 150, 151, 152, 153, 154, 155, 156, 157, 164, 165, 166, 167] (by decide +kernel) (by decide +kernel)
set_option maxRecDepth 20000 in
theorem gX4_does_X4_settled : GoodIn wsX4_does (wsV RX4 67 RX4 yX4_settled wsX4_settled) := goodIn_app (goodIn_of _ (by decide +kernel)) ggX4_does_X4_settled
theorem dX4_does_0 : decode cX4_does 0 = .ok (.aload_n 0, 1) := by decide +kernel
theorem dX4_does_1 : decode cX4_does 1 = .ok (.getfield 42, 3) := by decide +kernel
theorem dX4_does_4 : decode cX4_does 4 = .ok (.invokevirtual 175, 3) := by decide +kernel
theorem dX4_does_7 : decode cX4_does 7 = .ok (.ifCond .ne 14, 3) := by decide +kernel
theorem dX4_does_10 : decode cX4_does 10 = .ok (.bipush (-10), 2) := by decide +kernel
theorem dX4_does_12 : decode cX4_does 12 = .ok (.aload_n 0, 1) := by decide +kernel
theorem dX4_does_13 : decode cX4_does 13 = .ok (.getfield 42, 3) := by decide +kernel
theorem dX4_does_16 : decode cX4_does 16 = .ok (.getfield 179, 3) := by decide +kernel
theorem dX4_does_19 : decode cX4_does 19 = .ok (.isub, 1) := by decide +kernel
theorem dX4_does_20 : decode cX4_does 20 = .ok (.ireturn, 1) := by decide +kernel
theorem dX4_does_21 : decode cX4_does 21 = .ok (.aload_n 0, 1) := by decide +kernel
theorem dX4_does_22 : decode cX4_does 22 = .ok (.invokevirtual 60, 3) := by decide +kernel
theorem dX4_does_25 : decode cX4_does 25 = .ok (.iconst 0, 1) := by decide +kernel
theorem dX4_does_26 : decode cX4_does 26 = .ok (.istore_n 1, 1) := by decide +kernel
theorem dX4_does_27 : decode cX4_does 27 = .ok (.iload_n 1, 1) := by decide +kernel
theorem dX4_does_28 : decode cX4_does 28 = .ok (.aload_n 0, 1) := by decide +kernel
theorem dX4_does_29 : decode cX4_does 29 = .ok (.getfield 42, 3) := by decide +kernel
theorem dX4_does_32 : decode cX4_does 32 = .ok (.getfield 182, 3) := by decide +kernel
theorem dX4_does_35 : decode cX4_does 35 = .ok (.if_icmp .ge 37, 3) := by decide +kernel
theorem dX4_does_38 : decode cX4_does 38 = .ok (.aload_n 0, 1) := by decide +kernel
theorem dX4_does_39 : decode cX4_does 39 = .ok (.iload_n 1, 1) := by decide +kernel
theorem dX4_does_40 : decode cX4_does 40 = .ok (.invokevirtual 185, 3) := by decide +kernel
theorem dX4_does_43 : decode cX4_does 43 = .ok (.invokestatic 188, 3) := by decide +kernel
theorem dX4_does_46 : decode cX4_does 46 = .ok (.ifCond .eq 20, 3) := by decide +kernel
theorem dX4_does_49 : decode cX4_does 49 = .ok (.aload_n 0, 1) := by decide +kernel
theorem dX4_does_50 : decode cX4_does 50 = .ok (.getfield 12, 3) := by decide +kernel
theorem dX4_does_53 : decode cX4_does 53 = .ok (.aload_n 0, 1) := by decide +kernel
theorem dX4_does_54 : decode cX4_does 54 = .ok (.getfield 16, 3) := by decide +kernel
theorem dX4_does_57 : decode cX4_does 57 = .ok (.invokevirtual 191, 3) := by decide +kernel
theorem dX4_does_60 : decode cX4_does 60 = .ok (.sipush (-1000), 3) := by decide +kernel
theorem dX4_does_63 : decode cX4_does 63 = .ok (.iload_n 1, 1) := by decide +kernel
theorem dX4_does_64 : decode cX4_does 64 = .ok (.isub, 1) := by decide +kernel
theorem dX4_does_65 : decode cX4_does 65 = .ok (.ireturn, 1) := by decide +kernel
theorem dX4_does_66 : decode cX4_does 66 = .ok (.iinc 1 1, 3) := by decide +kernel
theorem dX4_does_69 : decode cX4_does 69 = .ok (.goto (-42), 3) := by decide +kernel
theorem dX4_does_72 : decode cX4_does 72 = .ok (.aload_n 0, 1) := by decide +kernel
theorem dX4_does_73 : decode cX4_does 73 = .ok (.aload_n 0, 1) := by decide +kernel
theorem dX4_does_74 : decode cX4_does 74 = .ok (.getfield 42, 3) := by decide +kernel
theorem dX4_does_77 : decode cX4_does 77 = .ok (.getfield 182, 3) := by decide +kernel
theorem dX4_does_80 : decode cX4_does 80 = .ok (.invokevirtual 67, 3) := by decide +kernel
theorem dX4_does_83 : decode cX4_does 83 = .ok (.ireturn, 1) := by decide +kernel
set_option maxRecDepth 20000 in
theorem ggX4_back_X4_counted : GoodIn wsX4_back wsX4_counted := goodIn_r _ [10, 11, 12, 13, 27, 28, 29, 30, 31, 32, 33, 34, 35, 36, 37] (by decide +kernel) (by decide +kernel)
set_option maxRecDepth 20000 in
theorem gX4_back_X4_counted : GoodIn wsX4_back (wsV RX4 98 RX4 yX4_counted wsX4_counted) := goodIn_app (goodIn_of _ (by decide +kernel)) ggX4_back_X4_counted
set_option maxRecDepth 20000 in
theorem ggX4_back_X0_copyFrom : GoodIn wsX4_back wsX0_copyFrom := goodIn_r _ [18, 19, 20, 21, 22, 23, 24, 25, 26, 38, 39, 40, 41] (by decide +kernel) (by decide +kernel)
set_option maxRecDepth 20000 in
theorem gX4_back_X0_copyFrom : GoodIn wsX4_back (wsV RX4 191 RX0 yX0_copyFrom wsX0_copyFrom) := goodIn_app (goodIn_of _ (by decide +kernel)) ggX4_back_X0_copyFrom
theorem dX4_back_0 : decode cX4_back 0 = .ok (.aload_n 0, 1) := by decide +kernel
theorem dX4_back_1 : decode cX4_back 1 = .ok (.getfield 27, 3) := by decide +kernel
theorem dX4_back_4 : decode cX4_back 4 = .ok (.ifCond .ne 10, 3) := by decide +kernel
theorem dX4_back_7 : decode cX4_back 7 = .ok (.aload_n 0, 1) := by decide +kernel
theorem dX4_back_8 : decode cX4_back 8 = .ok (.ldc 97, 2) := by decide +kernel
theorem dX4_back_10 : decode cX4_back 10 = .ok (.invokevirtual 98, 3) := by decide +kernel
theorem dX4_back_13 : decode cX4_back 13 = .ok (.ireturn, 1) := by decide +kernel
theorem dX4_back_14 : decode cX4_back 14 = .ok (.aload_n 0, 1) := by decide +kernel
theorem dX4_back_15 : decode cX4_back 15 = .ok (.aload_n 0, 1) := by decide +kernel
theorem dX4_back_16 : decode cX4_back 16 = .ok (.getfield 23, 3) := by decide +kernel
theorem dX4_back_19 : decode cX4_back 19 = .ok (.iconst 5, 1) := by decide +kernel
theorem dX4_back_20 : decode cX4_back 20 = .ok (.iadd, 1) := by decide +kernel
theorem dX4_back_21 : decode cX4_back 21 = .ok (.iconst 1, 1) := by decide +kernel
theorem dX4_back_22 : decode cX4_back 22 = .ok (.isub, 1) := by decide +kernel
theorem dX4_back_23 : decode cX4_back 23 = .ok (.iconst 5, 1) := by decide +kernel
theorem dX4_back_24 : decode cX4_back 24 = .ok (.irem, 1) := by decide +kernel
theorem dX4_back_25 : decode cX4_back 25 = .ok (.putfield 23, 3) := by decide +kernel
theorem dX4_back_28 : decode cX4_back 28 = .ok (.aload_n 0, 1) := by decide +kernel
theorem dX4_back_29 : decode cX4_back 29 = .ok (.dup, 1) := by decide +kernel
theorem dX4_back_30 : decode cX4_back 30 = .ok (.getfield 27, 3) := by decide +kernel
theorem dX4_back_33 : decode cX4_back 33 = .ok (.iconst 1, 1) := by decide +kernel
theorem dX4_back_34 : decode cX4_back 34 = .ok (.isub, 1) := by decide +kernel
theorem dX4_back_35 : decode cX4_back 35 = .ok (.putfield 27, 3) := by decide +kernel
theorem dX4_back_38 : decode cX4_back 38 = .ok (.aload_n 0, 1) := by decide +kernel
theorem dX4_back_39 : decode cX4_back 39 = .ok (.getfield 12, 3) := by decide +kernel
theorem dX4_back_42 : decode cX4_back 42 = .ok (.aload_n 0, 1) := by decide +kernel
theorem dX4_back_43 : decode cX4_back 43 = .ok (.getfield 19, 3) := by decide +kernel
theorem dX4_back_46 : decode cX4_back 46 = .ok (.aload_n 0, 1) := by decide +kernel
theorem dX4_back_47 : decode cX4_back 47 = .ok (.getfield 23, 3) := by decide +kernel
theorem dX4_back_50 : decode cX4_back 50 = .ok (.aaload, 1) := by decide +kernel
theorem dX4_back_51 : decode cX4_back 51 = .ok (.invokevirtual 191, 3) := by decide +kernel
theorem dX4_back_54 : decode cX4_back 54 = .ok (.aload_n 0, 1) := by decide +kernel
theorem dX4_back_55 : decode cX4_back 55 = .ok (.getfield 27, 3) := by decide +kernel
theorem dX4_back_58 : decode cX4_back 58 = .ok (.ireturn, 1) := by decide +kernel
set_option maxRecDepth 20000 in
theorem ggX4_told_X4_counted : GoodIn wsX4_told wsX4_counted := goodIn_r _ [12, 1, 2, 3, 13, 14, 15, 16, 17, 18, 19, 20, 21, 22, 23] (by decide +kernel) (by decide +kernel)
set_option maxRecDepth 20000 in
theorem gX4_told_X4_counted : GoodIn wsX4_told (wsV RX4 98 RX4 yX4_counted wsX4_counted) := goodIn_app (goodIn_of _ (by decide +kernel)) ggX4_told_X4_counted
theorem dX4_told_0 : decode cX4_told 0 = .ok (.iload_n 1, 1) := by decide +kernel
theorem dX4_told_1 : decode cX4_told 1 = .ok (.tableswitch 63 0 4 #[35, 40, 45, 50, 58], 35) := by decide +kernel
theorem dX4_told_36 : decode cX4_told 36 = .ok (.aload_n 0, 1) := by decide +kernel
theorem dX4_told_37 : decode cX4_told 37 = .ok (.getfield 30, 3) := by decide +kernel
theorem dX4_told_40 : decode cX4_told 40 = .ok (.ireturn, 1) := by decide +kernel
theorem dX4_told_41 : decode cX4_told 41 = .ok (.aload_n 0, 1) := by decide +kernel
theorem dX4_told_42 : decode cX4_told 42 = .ok (.getfield 33, 3) := by decide +kernel
theorem dX4_told_45 : decode cX4_told 45 = .ok (.ireturn, 1) := by decide +kernel
theorem dX4_told_46 : decode cX4_told 46 = .ok (.aload_n 0, 1) := by decide +kernel
theorem dX4_told_47 : decode cX4_told 47 = .ok (.getfield 36, 3) := by decide +kernel
theorem dX4_told_50 : decode cX4_told 50 = .ok (.ireturn, 1) := by decide +kernel
theorem dX4_told_51 : decode cX4_told 51 = .ok (.aload_n 0, 1) := by decide +kernel
theorem dX4_told_52 : decode cX4_told 52 = .ok (.getfield 42, 3) := by decide +kernel
theorem dX4_told_55 : decode cX4_told 55 = .ok (.getfield 167, 3) := by decide +kernel
theorem dX4_told_58 : decode cX4_told 58 = .ok (.ireturn, 1) := by decide +kernel
theorem dX4_told_59 : decode cX4_told 59 = .ok (.aload_n 0, 1) := by decide +kernel
theorem dX4_told_60 : decode cX4_told 60 = .ok (.getfield 27, 3) := by decide +kernel
theorem dX4_told_63 : decode cX4_told 63 = .ok (.ireturn, 1) := by decide +kernel
theorem dX4_told_64 : decode cX4_told 64 = .ok (.aload_n 0, 1) := by decide +kernel
theorem dX4_told_65 : decode cX4_told 65 = .ok (.ldc 118, 2) := by decide +kernel
theorem dX4_told_67 : decode cX4_told 67 = .ok (.invokevirtual 98, 3) := by decide +kernel
theorem dX4_told_70 : decode cX4_told 70 = .ok (.ireturn, 1) := by decide +kernel
set_option maxRecDepth 20000 in
theorem ggX4_digest_X4_told : GoodIn wsX4_digest wsX4_told := goodIn_r _ [10, 11, 12, 13, 14, 15, 16, 17, 18, 19, 20, 9, 21, 161, 162, 163, 164, 165, 166, 167, 168, 169, 170, 171, 176, 177, 178, 179, 180, 181] (by decide +kernel) (by decide +kernel)
set_option maxRecDepth 20000 in
theorem gX4_digest_X4_told : GoodIn wsX4_digest (wsV RX4 199 RX4 yX4_told wsX4_told) := goodIn_app (goodIn_of _ (by decide +kernel)) ggX4_digest_X4_told
set_option maxRecDepth 20000 in
theorem ggX4_digest_X4_count : GoodIn wsX4_digest wsX4_count := goodIn_r _ [25, 17, 1, 26, 5, 2, 27, 28, 9, 29, 18, 19, 20, 21, 11, 12, 13, 30, 31, 32, 33, 34, 35, 36, 37, 38, 39, 40, 41, 42, 43, 44, 45, 46, 47, 48, 49, 50, 51, 52, 53, 54, 55, 161, 162, 163, 164, 165, 166, 167, 168, 169, 170, 171, 172, 173, 174, 175] (by decide +kernel) (by decide +kernel)
set_option maxRecDepth 20000 in
theorem gX4_digest_X4_count : GoodIn wsX4_digest (wsV RX4 202 RX4 yX4_count wsX4_count) := goodIn_app (goodIn_of _ (by decide +kernel)) ggX4_digest_X4_count
set_option maxRecDepth 20000 in
theorem ggX4_digest_X4_of : GoodIn wsX4_digest wsX4_of := goodIn_r _ [59, 1, 17, 60, 61, 62, 40, 63, 42, 28, 9, 29, 27, 18, 19, 20, 21, 11, 12, 13, 64, 44, 45, 46, 47, 161, 162, 163, 164, 165, 166, 167, 168, 169, 170, 171, 172, 173, 174, 175] (by decide +kernel) (by decide +kernel)
set_option maxRecDepth 20000 in
theorem gX4_digest_X4_of : GoodIn wsX4_digest (wsV RX4 205 RX4 yX4_of wsX4_of) := goodIn_app (goodIn_of _ (by decide +kernel)) ggX4_digest_X4_of
set_option maxRecDepth 20000 in
theorem ggX4_digest_X4_loss : GoodIn wsX4_digest wsX4_loss := goodIn_r _ [68, 1, 17, 60, 61, 62, 40, 63, 42, 28, 9, 29, 27, 18, 19, 20, 21, 11, 12, 13, 69, 70, 71, 72, 43, 44, 45, 46, 47, 161, 162, 163, 164, 165, 166, 167, 168, 169, 170, 171, 172, 173, 174, 175] (by decide +kernel) (by decide +kernel)
set_option maxRecDepth 20000 in
theorem gX4_digest_X4_loss : GoodIn wsX4_digest (wsV RX4 208 RX4 yX4_loss wsX4_loss) := goodIn_app (goodIn_of _ (by decide +kernel)) ggX4_digest_X4_loss
set_option maxRecDepth 20000 in
theorem ggX4_digest_X4_node : GoodIn wsX4_digest wsX4_node := goodIn_r _ [76, 1, 17, 77, 2, 78, 79, 80, 81, 82, 40, 83, 42, 28, 9, 29, 27, 18, 19, 20, 21, 11, 12, 13, 84, 85, 86, 87, 88, 89, 90, 91, 92, 93, 94, 95, 96, 97, 98, 99, 100, 101, 102, 103, 104, 105, 106, 107, 108, 109, 110, 111, 112, 113, 114, 115, 116, 43, 44, 45, 46, 47, 117, 70, 71, 72, 118, 161, 162, 163, 164, 165, 166, 167, 168, 169, 170, 171, 172, 173, 174, 175, 182, 183, 184, 185] (by decide +kernel) (by decide +kernel)
set_option maxRecDepth 20000 in
theorem gX4_digest_X4_node : GoodIn wsX4_digest (wsV RX4 211 RX4 yX4_node wsX4_node) := goodIn_app (goodIn_of _ (by decide +kernel)) ggX4_digest_X4_node
set_option maxRecDepth 20000 in
theorem ggX4_digest_X4_run : GoodIn wsX4_digest wsX4_run := goodIn_r _ [122, 17, 77, 1, 2, 123, 124, 79, 5, 27, 28, 9, 29, 18, 19, 20, 21, 11, 12, 13, 84, 85, 86, 87, 88, 89, 90, 91, 92, 93, 94, 95, 96, 97, 98, 99, 100, 101, 102, 103, 104, 105, 106, 107, 108, 109, 110, 40, 111, 112, 113, 114, 115, 116, 43, 44, 45, 46, 47, 117, 70, 71, 72, 118, 161, 162, 163, 164, 165, 166, 167, 168, 169, 170, 171, 172, 173, 174, 175, 182, 183, 184, 185] (by decide +kernel) (by decide +kernel)
set_option maxRecDepth 20000 in
theorem gX4_digest_X4_run : GoodIn wsX4_digest (wsV RX4 214 RX4 yX4_run wsX4_run) := goodIn_app (goodIn_of _ (by decide +kernel)) ggX4_digest_X4_run
set_option maxRecDepth 20000 in
theorem ggX4_digest_X4_fewest : GoodIn wsX4_digest wsX4_fewest := goodIn_r _ [128, 17, 129, 1, 130, 131, 27, 28, 9, 29, 18, 19, 20, 21, 11, 12, 13, 132, 133, 134, 135, 136, 137, 138, 139, 140, 141, 97, 98, 99, 142, 143, 144, 145, 146, 147, 106, 148, 149, 114, 115, 40, 116, 43, 44, 45, 46, 47, 117, 70, 71, 72, 150, 151, 152, 153, 154, 155, 156, 161, 162, 163, 164, 165, 166, 167, 168, 169, 170, 171, 186, 172, 173, 174, 175] (by decide +kernel) (by decide +kernel)
set_option maxRecDepth 20000 in
theorem gX4_digest_X4_fewest : GoodIn wsX4_digest (wsV RX4 217 RX4 yX4_fewest wsX4_fewest) := goodIn_app (goodIn_of _ (by decide +kernel)) ggX4_digest_X4_fewest
set_option maxRecDepth 20000 in
theorem ggX4_digest_X4_most : GoodIn wsX4_digest wsX4_most := goodIn_r _ [160, 77, 1, 124, 131, 84, 85, 86, 87, 88, 89, 90, 91, 92, 93, 94, 95, 96, 97, 98, 99, 100, 101, 102, 103, 104, 105, 106, 107, 108, 109, 110, 40, 111, 112, 113, 114, 115, 116, 43, 44, 45, 46, 47, 117, 70, 71, 72, 118, 161, 162, 163, 164, 165, 166, 167, 168, 169, 170, 171, 182, 183, 184, 185, 172, 173, 174, 175] (by decide +kernel) (by decide +kernel)
set_option maxRecDepth 20000 in
theorem gX4_digest_X4_most : GoodIn wsX4_digest (wsV RX4 220 RX4 yX4_most wsX4_most) := goodIn_app (goodIn_of _ (by decide +kernel)) ggX4_digest_X4_most
theorem dX4_digest_0 : decode cX4_digest 0 = .ok (.aload_n 0, 1) := by decide +kernel
theorem dX4_digest_1 : decode cX4_digest 1 = .ok (.getfield 12, 3) := by decide +kernel
theorem dX4_digest_4 : decode cX4_digest 4 = .ok (.getfield 88, 3) := by decide +kernel
theorem dX4_digest_7 : decode cX4_digest 7 = .ok (.iconst 0, 1) := by decide +kernel
theorem dX4_digest_8 : decode cX4_digest 8 = .ok (.iaload, 1) := by decide +kernel
theorem dX4_digest_9 : decode cX4_digest 9 = .ok (.istore_n 1, 1) := by decide +kernel
theorem dX4_digest_10 : decode cX4_digest 10 = .ok (.ldc2_w 195, 3) := by decide +kernel
theorem dX4_digest_13 : decode cX4_digest 13 = .ok (.lstore_n 2, 1) := by decide +kernel
theorem dX4_digest_14 : decode cX4_digest 14 = .ok (.iconst 0, 1) := by decide +kernel
theorem dX4_digest_15 : decode cX4_digest 15 = .ok (.istore 4, 2) := by decide +kernel
theorem dX4_digest_17 : decode cX4_digest 17 = .ok (.iload 4, 2) := by decide +kernel
theorem dX4_digest_19 : decode cX4_digest 19 = .ok (.iconst 4, 1) := by decide +kernel
theorem dX4_digest_20 : decode cX4_digest 20 = .ok (.if_icmp .gt 23, 3) := by decide +kernel
theorem dX4_digest_23 : decode cX4_digest 23 = .ok (.ldc2_w 197, 3) := by decide +kernel
theorem dX4_digest_26 : decode cX4_digest 26 = .ok (.lload_n 2, 1) := by decide +kernel
theorem dX4_digest_27 : decode cX4_digest 27 = .ok (.lmul, 1) := by decide +kernel
theorem dX4_digest_28 : decode cX4_digest 28 = .ok (.aload_n 0, 1) := by decide +kernel
theorem dX4_digest_29 : decode cX4_digest 29 = .ok (.iload 4, 2) := by decide +kernel
theorem dX4_digest_31 : decode cX4_digest 31 = .ok (.invokevirtual 199, 3) := by decide +kernel
theorem dX4_digest_34 : decode cX4_digest 34 = .ok (.i2l, 1) := by decide +kernel
theorem dX4_digest_35 : decode cX4_digest 35 = .ok (.ladd, 1) := by decide +kernel
theorem dX4_digest_36 : decode cX4_digest 36 = .ok (.lstore_n 2, 1) := by decide +kernel
theorem dX4_digest_37 : decode cX4_digest 37 = .ok (.iinc 4 1, 3) := by decide +kernel
theorem dX4_digest_40 : decode cX4_digest 40 = .ok (.goto (-23), 3) := by decide +kernel
theorem dX4_digest_43 : decode cX4_digest 43 = .ok (.iconst 0, 1) := by decide +kernel
theorem dX4_digest_44 : decode cX4_digest 44 = .ok (.istore 4, 2) := by decide +kernel
theorem dX4_digest_46 : decode cX4_digest 46 = .ok (.iload 4, 2) := by decide +kernel
theorem dX4_digest_48 : decode cX4_digest 48 = .ok (.bipush 10, 2) := by decide +kernel
theorem dX4_digest_50 : decode cX4_digest 50 = .ok (.if_icmp .gt 23, 3) := by decide +kernel
theorem dX4_digest_53 : decode cX4_digest 53 = .ok (.ldc2_w 197, 3) := by decide +kernel
theorem dX4_digest_56 : decode cX4_digest 56 = .ok (.lload_n 2, 1) := by decide +kernel
theorem dX4_digest_57 : decode cX4_digest 57 = .ok (.lmul, 1) := by decide +kernel
theorem dX4_digest_58 : decode cX4_digest 58 = .ok (.aload_n 0, 1) := by decide +kernel
theorem dX4_digest_59 : decode cX4_digest 59 = .ok (.iload 4, 2) := by decide +kernel
theorem dX4_digest_61 : decode cX4_digest 61 = .ok (.invokevirtual 202, 3) := by decide +kernel
theorem dX4_digest_64 : decode cX4_digest 64 = .ok (.i2l, 1) := by decide +kernel
theorem dX4_digest_65 : decode cX4_digest 65 = .ok (.ladd, 1) := by decide +kernel
theorem dX4_digest_66 : decode cX4_digest 66 = .ok (.lstore_n 2, 1) := by decide +kernel
theorem dX4_digest_67 : decode cX4_digest 67 = .ok (.iinc 4 1, 3) := by decide +kernel
theorem dX4_digest_70 : decode cX4_digest 70 = .ok (.goto (-24), 3) := by decide +kernel
theorem dX4_digest_73 : decode cX4_digest 73 = .ok (.iconst 0, 1) := by decide +kernel
theorem dX4_digest_74 : decode cX4_digest 74 = .ok (.istore 4, 2) := by decide +kernel
theorem dX4_digest_76 : decode cX4_digest 76 = .ok (.iload 4, 2) := by decide +kernel
theorem dX4_digest_78 : decode cX4_digest 78 = .ok (.aload_n 0, 1) := by decide +kernel
theorem dX4_digest_79 : decode cX4_digest 79 = .ok (.getfield 12, 3) := by decide +kernel
theorem dX4_digest_82 : decode cX4_digest 82 = .ok (.getfield 144, 3) := by decide +kernel
theorem dX4_digest_85 : decode cX4_digest 85 = .ok (.if_icmp .ge 55, 3) := by decide +kernel
theorem dX4_digest_88 : decode cX4_digest 88 = .ok (.iconst 0, 1) := by decide +kernel
theorem dX4_digest_89 : decode cX4_digest 89 = .ok (.istore 5, 2) := by decide +kernel
theorem dX4_digest_91 : decode cX4_digest 91 = .ok (.iload 5, 2) := by decide +kernel
theorem dX4_digest_93 : decode cX4_digest 93 = .ok (.iconst 5, 1) := by decide +kernel
theorem dX4_digest_94 : decode cX4_digest 94 = .ok (.if_icmp .ge 25, 3) := by decide +kernel
theorem dX4_digest_97 : decode cX4_digest 97 = .ok (.ldc2_w 197, 3) := by decide +kernel
theorem dX4_digest_100 : decode cX4_digest 100 = .ok (.lload_n 2, 1) := by decide +kernel
theorem dX4_digest_101 : decode cX4_digest 101 = .ok (.lmul, 1) := by decide +kernel
theorem dX4_digest_102 : decode cX4_digest 102 = .ok (.aload_n 0, 1) := by decide +kernel
theorem dX4_digest_103 : decode cX4_digest 103 = .ok (.iload 4, 2) := by decide +kernel
theorem dX4_digest_105 : decode cX4_digest 105 = .ok (.iload 5, 2) := by decide +kernel
theorem dX4_digest_107 : decode cX4_digest 107 = .ok (.invokevirtual 205, 3) := by decide +kernel
theorem dX4_digest_110 : decode cX4_digest 110 = .ok (.i2l, 1) := by decide +kernel
theorem dX4_digest_111 : decode cX4_digest 111 = .ok (.ladd, 1) := by decide +kernel
theorem dX4_digest_112 : decode cX4_digest 112 = .ok (.lstore_n 2, 1) := by decide +kernel
theorem dX4_digest_113 : decode cX4_digest 113 = .ok (.iinc 5 1, 3) := by decide +kernel
theorem dX4_digest_116 : decode cX4_digest 116 = .ok (.goto (-25), 3) := by decide +kernel
theorem dX4_digest_119 : decode cX4_digest 119 = .ok (.ldc2_w 197, 3) := by decide +kernel
theorem dX4_digest_122 : decode cX4_digest 122 = .ok (.lload_n 2, 1) := by decide +kernel
theorem dX4_digest_123 : decode cX4_digest 123 = .ok (.lmul, 1) := by decide +kernel
theorem dX4_digest_124 : decode cX4_digest 124 = .ok (.aload_n 0, 1) := by decide +kernel
theorem dX4_digest_125 : decode cX4_digest 125 = .ok (.iload 4, 2) := by decide +kernel
theorem dX4_digest_127 : decode cX4_digest 127 = .ok (.iload_n 1, 1) := by decide +kernel
theorem dX4_digest_128 : decode cX4_digest 128 = .ok (.invokevirtual 208, 3) := by decide +kernel
theorem dX4_digest_131 : decode cX4_digest 131 = .ok (.i2l, 1) := by decide +kernel
theorem dX4_digest_132 : decode cX4_digest 132 = .ok (.ladd, 1) := by decide +kernel
theorem dX4_digest_133 : decode cX4_digest 133 = .ok (.lstore_n 2, 1) := by decide +kernel
theorem dX4_digest_134 : decode cX4_digest 134 = .ok (.iinc 4 1, 3) := by decide +kernel
theorem dX4_digest_137 : decode cX4_digest 137 = .ok (.goto (-61), 3) := by decide +kernel
theorem dX4_digest_140 : decode cX4_digest 140 = .ok (.iconst 0, 1) := by decide +kernel
theorem dX4_digest_141 : decode cX4_digest 141 = .ok (.istore 4, 2) := by decide +kernel
theorem dX4_digest_143 : decode cX4_digest 143 = .ok (.iload 4, 2) := by decide +kernel
theorem dX4_digest_145 : decode cX4_digest 145 = .ok (.aload_n 0, 1) := by decide +kernel
theorem dX4_digest_146 : decode cX4_digest 146 = .ok (.getfield 12, 3) := by decide +kernel
theorem dX4_digest_149 : decode cX4_digest 149 = .ok (.getfield 144, 3) := by decide +kernel
theorem dX4_digest_152 : decode cX4_digest 152 = .ok (.if_icmp .gt 39, 3) := by decide +kernel
theorem dX4_digest_155 : decode cX4_digest 155 = .ok (.ldc2_w 197, 3) := by decide +kernel
theorem dX4_digest_158 : decode cX4_digest 158 = .ok (.lload_n 2, 1) := by decide +kernel
theorem dX4_digest_159 : decode cX4_digest 159 = .ok (.lmul, 1) := by decide +kernel
theorem dX4_digest_160 : decode cX4_digest 160 = .ok (.aload_n 0, 1) := by decide +kernel
theorem dX4_digest_161 : decode cX4_digest 161 = .ok (.iload 4, 2) := by decide +kernel
theorem dX4_digest_163 : decode cX4_digest 163 = .ok (.iconst 0, 1) := by decide +kernel
theorem dX4_digest_164 : decode cX4_digest 164 = .ok (.invokevirtual 211, 3) := by decide +kernel
theorem dX4_digest_167 : decode cX4_digest 167 = .ok (.i2l, 1) := by decide +kernel
theorem dX4_digest_168 : decode cX4_digest 168 = .ok (.ladd, 1) := by decide +kernel
theorem dX4_digest_169 : decode cX4_digest 169 = .ok (.lstore_n 2, 1) := by decide +kernel
theorem dX4_digest_170 : decode cX4_digest 170 = .ok (.ldc2_w 197, 3) := by decide +kernel
theorem dX4_digest_173 : decode cX4_digest 173 = .ok (.lload_n 2, 1) := by decide +kernel
theorem dX4_digest_174 : decode cX4_digest 174 = .ok (.lmul, 1) := by decide +kernel
theorem dX4_digest_175 : decode cX4_digest 175 = .ok (.aload_n 0, 1) := by decide +kernel
theorem dX4_digest_176 : decode cX4_digest 176 = .ok (.iload 4, 2) := by decide +kernel
theorem dX4_digest_178 : decode cX4_digest 178 = .ok (.iconst 1, 1) := by decide +kernel
theorem dX4_digest_179 : decode cX4_digest 179 = .ok (.invokevirtual 211, 3) := by decide +kernel
theorem dX4_digest_182 : decode cX4_digest 182 = .ok (.i2l, 1) := by decide +kernel
theorem dX4_digest_183 : decode cX4_digest 183 = .ok (.ladd, 1) := by decide +kernel
theorem dX4_digest_184 : decode cX4_digest 184 = .ok (.lstore_n 2, 1) := by decide +kernel
theorem dX4_digest_185 : decode cX4_digest 185 = .ok (.iinc 4 1, 3) := by decide +kernel
theorem dX4_digest_188 : decode cX4_digest 188 = .ok (.goto (-45), 3) := by decide +kernel
theorem dX4_digest_191 : decode cX4_digest 191 = .ok (.iconst 0, 1) := by decide +kernel
theorem dX4_digest_192 : decode cX4_digest 192 = .ok (.istore 4, 2) := by decide +kernel
theorem dX4_digest_194 : decode cX4_digest 194 = .ok (.iload 4, 2) := by decide +kernel
theorem dX4_digest_196 : decode cX4_digest 196 = .ok (.iconst 2, 1) := by decide +kernel
theorem dX4_digest_197 : decode cX4_digest 197 = .ok (.if_icmp .gt 23, 3) := by decide +kernel
theorem dX4_digest_200 : decode cX4_digest 200 = .ok (.ldc2_w 197, 3) := by decide +kernel
theorem dX4_digest_203 : decode cX4_digest 203 = .ok (.lload_n 2, 1) := by decide +kernel
theorem dX4_digest_204 : decode cX4_digest 204 = .ok (.lmul, 1) := by decide +kernel
theorem dX4_digest_205 : decode cX4_digest 205 = .ok (.aload_n 0, 1) := by decide +kernel
theorem dX4_digest_206 : decode cX4_digest 206 = .ok (.iload 4, 2) := by decide +kernel
theorem dX4_digest_208 : decode cX4_digest 208 = .ok (.invokevirtual 214, 3) := by decide +kernel
theorem dX4_digest_211 : decode cX4_digest 211 = .ok (.i2l, 1) := by decide +kernel
theorem dX4_digest_212 : decode cX4_digest 212 = .ok (.ladd, 1) := by decide +kernel
theorem dX4_digest_213 : decode cX4_digest 213 = .ok (.lstore_n 2, 1) := by decide +kernel
theorem dX4_digest_214 : decode cX4_digest 214 = .ok (.iinc 4 1, 3) := by decide +kernel
theorem dX4_digest_217 : decode cX4_digest 217 = .ok (.goto (-23), 3) := by decide +kernel
theorem dX4_digest_220 : decode cX4_digest 220 = .ok (.ldc2_w 197, 3) := by decide +kernel
theorem dX4_digest_223 : decode cX4_digest 223 = .ok (.lload_n 2, 1) := by decide +kernel
theorem dX4_digest_224 : decode cX4_digest 224 = .ok (.lmul, 1) := by decide +kernel
theorem dX4_digest_225 : decode cX4_digest 225 = .ok (.aload_n 0, 1) := by decide +kernel
theorem dX4_digest_226 : decode cX4_digest 226 = .ok (.iload_n 1, 1) := by decide +kernel
theorem dX4_digest_227 : decode cX4_digest 227 = .ok (.iconst 0, 1) := by decide +kernel
theorem dX4_digest_228 : decode cX4_digest 228 = .ok (.invokevirtual 217, 3) := by decide +kernel
theorem dX4_digest_231 : decode cX4_digest 231 = .ok (.i2l, 1) := by decide +kernel
theorem dX4_digest_232 : decode cX4_digest 232 = .ok (.ladd, 1) := by decide +kernel
theorem dX4_digest_233 : decode cX4_digest 233 = .ok (.lstore_n 2, 1) := by decide +kernel
theorem dX4_digest_234 : decode cX4_digest 234 = .ok (.ldc2_w 197, 3) := by decide +kernel
theorem dX4_digest_237 : decode cX4_digest 237 = .ok (.lload_n 2, 1) := by decide +kernel
theorem dX4_digest_238 : decode cX4_digest 238 = .ok (.lmul, 1) := by decide +kernel
theorem dX4_digest_239 : decode cX4_digest 239 = .ok (.aload_n 0, 1) := by decide +kernel
theorem dX4_digest_240 : decode cX4_digest 240 = .ok (.iload_n 1, 1) := by decide +kernel
theorem dX4_digest_241 : decode cX4_digest 241 = .ok (.iconst 1, 1) := by decide +kernel
theorem dX4_digest_242 : decode cX4_digest 242 = .ok (.invokevirtual 217, 3) := by decide +kernel
theorem dX4_digest_245 : decode cX4_digest 245 = .ok (.i2l, 1) := by decide +kernel
theorem dX4_digest_246 : decode cX4_digest 246 = .ok (.ladd, 1) := by decide +kernel
theorem dX4_digest_247 : decode cX4_digest 247 = .ok (.lstore_n 2, 1) := by decide +kernel
theorem dX4_digest_248 : decode cX4_digest 248 = .ok (.ldc2_w 197, 3) := by decide +kernel
theorem dX4_digest_251 : decode cX4_digest 251 = .ok (.lload_n 2, 1) := by decide +kernel
theorem dX4_digest_252 : decode cX4_digest 252 = .ok (.lmul, 1) := by decide +kernel
theorem dX4_digest_253 : decode cX4_digest 253 = .ok (.aload_n 0, 1) := by decide +kernel
theorem dX4_digest_254 : decode cX4_digest 254 = .ok (.invokevirtual 220, 3) := by decide +kernel
theorem dX4_digest_257 : decode cX4_digest 257 = .ok (.i2l, 1) := by decide +kernel
theorem dX4_digest_258 : decode cX4_digest 258 = .ok (.ladd, 1) := by decide +kernel
theorem dX4_digest_259 : decode cX4_digest 259 = .ok (.lreturn, 1) := by decide +kernel
theorem dX4_within_0 : decode cX4_within 0 = .ok (.iload_n 0, 1) := by decide +kernel
theorem dX4_within_1 : decode cX4_within 1 = .ok (.iload_n 1, 1) := by decide +kernel
theorem dX4_within_2 : decode cX4_within 2 = .ok (.if_icmp .lt 12, 3) := by decide +kernel
theorem dX4_within_5 : decode cX4_within 5 = .ok (.iload_n 0, 1) := by decide +kernel
theorem dX4_within_6 : decode cX4_within 6 = .ok (.iload_n 2, 1) := by decide +kernel
theorem dX4_within_7 : decode cX4_within 7 = .ok (.if_icmp .gt 7, 3) := by decide +kernel
theorem dX4_within_10 : decode cX4_within 10 = .ok (.iconst 1, 1) := by decide +kernel
theorem dX4_within_11 : decode cX4_within 11 = .ok (.goto 4, 3) := by decide +kernel
theorem dX4_within_14 : decode cX4_within 14 = .ok (.iconst 0, 1) := by decide +kernel
theorem dX4_within_15 : decode cX4_within 15 = .ok (.ireturn, 1) := by decide +kernel
theorem dX4_isRefusal_0 : decode cX4_isRefusal 0 = .ok (.iload_n 0, 1) := by decide +kernel
theorem dX4_isRefusal_1 : decode cX4_isRefusal 1 = .ok (.ldc 118, 2) := by decide +kernel
theorem dX4_isRefusal_3 : decode cX4_isRefusal 3 = .ok (.if_icmp .eq 15, 3) := by decide +kernel
theorem dX4_isRefusal_6 : decode cX4_isRefusal 6 = .ok (.iload_n 0, 1) := by decide +kernel
theorem dX4_isRefusal_7 : decode cX4_isRefusal 7 = .ok (.ldc 97, 2) := by decide +kernel
theorem dX4_isRefusal_9 : decode cX4_isRefusal 9 = .ok (.if_icmp .eq 9, 3) := by decide +kernel
theorem dX4_isRefusal_12 : decode cX4_isRefusal 12 = .ok (.iload_n 0, 1) := by decide +kernel
theorem dX4_isRefusal_13 : decode cX4_isRefusal 13 = .ok (.ldc 170, 2) := by decide +kernel
theorem dX4_isRefusal_15 : decode cX4_isRefusal 15 = .ok (.if_icmp .ne 7, 3) := by decide +kernel
theorem dX4_isRefusal_18 : decode cX4_isRefusal 18 = .ok (.iconst 1, 1) := by decide +kernel
theorem dX4_isRefusal_19 : decode cX4_isRefusal 19 = .ok (.goto 4, 3) := by decide +kernel
theorem dX4_isRefusal_22 : decode cX4_isRefusal 22 = .ok (.iconst 0, 1) := by decide +kernel
theorem dX4_isRefusal_23 : decode cX4_isRefusal 23 = .ok (.ireturn, 1) := by decide +kernel
theorem dX4_counted_0 : decode cX4_counted 0 = .ok (.iload_n 1, 1) := by decide +kernel
theorem dX4_counted_1 : decode cX4_counted 1 = .ok (.lookupswitch 53 #[(-1000003, 40), (-1000002, 27)], 27) := by decide +kernel
theorem dX4_counted_28 : decode cX4_counted 28 = .ok (.aload_n 0, 1) := by decide +kernel
theorem dX4_counted_29 : decode cX4_counted 29 = .ok (.dup, 1) := by decide +kernel
theorem dX4_counted_30 : decode cX4_counted 30 = .ok (.getfield 30, 3) := by decide +kernel
theorem dX4_counted_33 : decode cX4_counted 33 = .ok (.iconst 1, 1) := by decide +kernel
theorem dX4_counted_34 : decode cX4_counted 34 = .ok (.iadd, 1) := by decide +kernel
theorem dX4_counted_35 : decode cX4_counted 35 = .ok (.putfield 30, 3) := by decide +kernel
theorem dX4_counted_38 : decode cX4_counted 38 = .ok (.goto 26, 3) := by decide +kernel
theorem dX4_counted_41 : decode cX4_counted 41 = .ok (.aload_n 0, 1) := by decide +kernel
theorem dX4_counted_42 : decode cX4_counted 42 = .ok (.dup, 1) := by decide +kernel
theorem dX4_counted_43 : decode cX4_counted 43 = .ok (.getfield 33, 3) := by decide +kernel
theorem dX4_counted_46 : decode cX4_counted 46 = .ok (.iconst 1, 1) := by decide +kernel
theorem dX4_counted_47 : decode cX4_counted 47 = .ok (.iadd, 1) := by decide +kernel
theorem dX4_counted_48 : decode cX4_counted 48 = .ok (.putfield 33, 3) := by decide +kernel
theorem dX4_counted_51 : decode cX4_counted 51 = .ok (.goto 13, 3) := by decide +kernel
theorem dX4_counted_54 : decode cX4_counted 54 = .ok (.aload_n 0, 1) := by decide +kernel
theorem dX4_counted_55 : decode cX4_counted 55 = .ok (.dup, 1) := by decide +kernel
theorem dX4_counted_56 : decode cX4_counted 56 = .ok (.getfield 36, 3) := by decide +kernel
theorem dX4_counted_59 : decode cX4_counted 59 = .ok (.iconst 1, 1) := by decide +kernel
theorem dX4_counted_60 : decode cX4_counted 60 = .ok (.iadd, 1) := by decide +kernel
theorem dX4_counted_61 : decode cX4_counted 61 = .ok (.putfield 36, 3) := by decide +kernel
theorem dX4_counted_64 : decode cX4_counted 64 = .ok (.iload_n 1, 1) := by decide +kernel
theorem dX4_counted_65 : decode cX4_counted 65 = .ok (.ireturn, 1) := by decide +kernel
set_option maxRecDepth 20000 in
theorem ggX4_keepBefore_X0_copyFrom : GoodIn wsX4_keepBefore wsX0_copyFrom := goodIn_r _ [7, 8, 9, 10, 11, 12, 13, 14, 15, 27, 28, 29, 30] (by decide +kernel) (by decide +kernel)
set_option maxRecDepth 20000 in
theorem gX4_keepBefore_X0_copyFrom : GoodIn wsX4_keepBefore (wsV RX4 191 RX0 yX0_copyFrom wsX0_copyFrom) := goodIn_app (goodIn_of _ (by decide +kernel)) ggX4_keepBefore_X0_copyFrom
theorem dX4_keepBefore_0 : decode cX4_keepBefore 0 = .ok (.aload_n 0, 1) := by decide +kernel
theorem dX4_keepBefore_1 : decode cX4_keepBefore 1 = .ok (.getfield 16, 3) := by decide +kernel
theorem dX4_keepBefore_4 : decode cX4_keepBefore 4 = .ok (.aload_n 0, 1) := by decide +kernel
theorem dX4_keepBefore_5 : decode cX4_keepBefore 5 = .ok (.getfield 12, 3) := by decide +kernel
theorem dX4_keepBefore_8 : decode cX4_keepBefore 8 = .ok (.invokevirtual 191, 3) := by decide +kernel
theorem dX4_keepBefore_11 : decode cX4_keepBefore 11 = .ok (.return_, 1) := by decide +kernel
set_option maxRecDepth 20000 in
theorem ggX4_settled_X4_isRefusal : GoodIn wsX4_settled wsX4_isRefusal := goodIn_r _ [12, 13, 14, 15] (by decide +kernel) (by decide +kernel)
set_option maxRecDepth 20000 in
theorem gX4_settled_X4_isRefusal : GoodIn wsX4_settled (va_wsS RX4 188 yX4_isRefusal wsX4_isRefusal) := goodIn_app (goodIn_of _ (by decide +kernel)) ggX4_settled_X4_isRefusal
end
section
set_option maxRecDepth 20000 in
theorem ggX4_settled_X4_counted : GoodIn wsX4_settled wsX4_counted := goodIn_r _ [19, 20, 21, 22, 36, 37, 38, 39, 40, 41, 42, 43, 44, 45, 46] (by decide +kernel) (by decide +kernel)
set_option maxRecDepth 20000 in
theorem gX4_settled_X4_counted : GoodIn wsX4_settled (wsV RX4 98 RX4 yX4_counted wsX4_counted) := goodIn_app (goodIn_of _ (by decide +kernel)) ggX4_settled_X4_counted
set_option maxRecDepth 20000 in
theorem ggX4_settled_X0_copyFrom : GoodIn wsX4_settled wsX0_copyFrom := goodIn_r _ [27, 28, 29, 30, 31, 32, 33, 34, 35, 47, 48, 49, 50] (by decide +kernel) (by decide +kernel)
set_option maxRecDepth 20000 in
theorem gX4_settled_X0_copyFrom : GoodIn wsX4_settled (wsV RX4 191 RX0 yX0_copyFrom wsX0_copyFrom) := goodIn_app (goodIn_of _ (by decide +kernel)) ggX4_settled_X0_copyFrom
theorem dX4_settled_0 : decode cX4_settled 0 = .ok (.iload_n 1, 1) := by decide +kernel
theorem dX4_settled_1 : decode cX4_settled 1 = .ok (.invokestatic 188, 3) := by decide +kernel
theorem dX4_settled_4 : decode cX4_settled 4 = .ok (.ifCond .eq 9, 3) := by decide +kernel
theorem dX4_settled_7 : decode cX4_settled 7 = .ok (.aload_n 0, 1) := by decide +kernel
theorem dX4_settled_8 : decode cX4_settled 8 = .ok (.iload_n 1, 1) := by decide +kernel
theorem dX4_settled_9 : decode cX4_settled 9 = .ok (.invokevirtual 98, 3) := by decide +kernel
theorem dX4_settled_12 : decode cX4_settled 12 = .ok (.ireturn, 1) := by decide +kernel
theorem dX4_settled_13 : decode cX4_settled 13 = .ok (.aload_n 0, 1) := by decide +kernel
theorem dX4_settled_14 : decode cX4_settled 14 = .ok (.getfield 19, 3) := by decide +kernel
theorem dX4_settled_17 : decode cX4_settled 17 = .ok (.aload_n 0, 1) := by decide +kernel
theorem dX4_settled_18 : decode cX4_settled 18 = .ok (.getfield 23, 3) := by decide +kernel
theorem dX4_settled_21 : decode cX4_settled 21 = .ok (.aaload, 1) := by decide +kernel
theorem dX4_settled_22 : decode cX4_settled 22 = .ok (.aload_n 0, 1) := by decide +kernel
theorem dX4_settled_23 : decode cX4_settled 23 = .ok (.getfield 16, 3) := by decide +kernel
theorem dX4_settled_26 : decode cX4_settled 26 = .ok (.invokevirtual 191, 3) := by decide +kernel
theorem dX4_settled_29 : decode cX4_settled 29 = .ok (.aload_n 0, 1) := by decide +kernel
theorem dX4_settled_30 : decode cX4_settled 30 = .ok (.aload_n 0, 1) := by decide +kernel
theorem dX4_settled_31 : decode cX4_settled 31 = .ok (.getfield 23, 3) := by decide +kernel
theorem dX4_settled_34 : decode cX4_settled 34 = .ok (.iconst 1, 1) := by decide +kernel
theorem dX4_settled_35 : decode cX4_settled 35 = .ok (.iadd, 1) := by decide +kernel
theorem dX4_settled_36 : decode cX4_settled 36 = .ok (.iconst 5, 1) := by decide +kernel
theorem dX4_settled_37 : decode cX4_settled 37 = .ok (.irem, 1) := by decide +kernel
theorem dX4_settled_38 : decode cX4_settled 38 = .ok (.putfield 23, 3) := by decide +kernel
theorem dX4_settled_41 : decode cX4_settled 41 = .ok (.aload_n 0, 1) := by decide +kernel
theorem dX4_settled_42 : decode cX4_settled 42 = .ok (.aload_n 0, 1) := by decide +kernel
theorem dX4_settled_43 : decode cX4_settled 43 = .ok (.getfield 27, 3) := by decide +kernel
theorem dX4_settled_46 : decode cX4_settled 46 = .ok (.iconst 1, 1) := by decide +kernel
theorem dX4_settled_47 : decode cX4_settled 47 = .ok (.iadd, 1) := by decide +kernel
theorem dX4_settled_48 : decode cX4_settled 48 = .ok (.iconst 5, 1) := by decide +kernel
theorem dX4_settled_49 : decode cX4_settled 49 = .ok (.invokestatic 223, 3) := by decide +kernel
theorem dX4_settled_52 : decode cX4_settled 52 = .ok (.putfield 27, 3) := by decide +kernel
theorem dX4_settled_55 : decode cX4_settled 55 = .ok (.iload_n 1, 1) := by decide +kernel
theorem dX4_settled_56 : decode cX4_settled 56 = .ok (.ireturn, 1) := by decide +kernel
set_option maxRecDepth 20000 in
theorem ggX4_obeyed_X3_number : GoodIn wsX4_obeyed wsX3_number := goodIn_r _ [8, 9, 83, 84, 85, 86, 87, 88] (by decide +kernel) (by decide +kernel)
set_option maxRecDepth 20000 in
theorem gX4_obeyed_X3_number : GoodIn wsX4_obeyed (wsV RX4 228 RX3 yX3_number wsX3_number) := goodIn_app (goodIn_of _ (by decide +kernel)) ggX4_obeyed_X3_number
set_option maxRecDepth 20000 in
theorem ggX4_obeyed_X0_addSpan : GoodIn wsX4_obeyed wsX0_addSpan := goodIn_r _ [14, 15, 16, 17, 18, 19, 20, 21, 22, 23, 13, 24, 25, 89, 90, 91, 92] (by decide +kernel) (by decide +kernel)
set_option maxRecDepth 20000 in
theorem gX4_obeyed_X0_addSpan : GoodIn wsX4_obeyed (wsV RX4 63 RX0 yX0_addSpan wsX0_addSpan) := goodIn_app (goodIn_of _ (by decide +kernel)) ggX4_obeyed_X0_addSpan
set_option maxRecDepth 20000 in
theorem ggX4_obeyed_X0_changeSetting : GoodIn wsX4_obeyed wsX0_changeSetting := goodIn_r _ [29, 15, 30, 18, 19, 20, 89, 90, 91, 92] (by decide +kernel) (by decide +kernel)
set_option maxRecDepth 20000 in
theorem gX4_obeyed_X0_changeSetting : GoodIn wsX4_obeyed (wsV RX4 75 RX0 yX0_changeSetting wsX0_changeSetting) := goodIn_app (goodIn_of _ (by decide +kernel)) ggX4_obeyed_X0_changeSetting
set_option maxRecDepth 20000 in
theorem ggX4_obeyed_X0_turnPump : GoodIn wsX4_obeyed wsX0_turnPump := goodIn_r _ [34, 15, 35, 36, 37, 38, 13, 39, 16, 18, 19, 20, 40, 41, 42, 43, 44, 45, 46, 89, 90, 91, 92] (by decide +kernel) (by decide +kernel)
set_option maxRecDepth 20000 in
theorem gX4_obeyed_X0_turnPump : GoodIn wsX4_obeyed (wsV RX4 79 RX0 yX0_turnPump wsX0_turnPump) := goodIn_app (goodIn_of _ (by decide +kernel)) ggX4_obeyed_X0_turnPump
set_option maxRecDepth 20000 in
theorem ggX4_obeyed_X0_burstSpan : GoodIn wsX4_obeyed wsX0_burstSpan := goodIn_r _ [50, 15, 51, 52, 53, 13, 54, 16, 18, 19, 20, 55, 56, 57, 58, 25, 21, 22, 23, 24, 89, 90, 91, 92] (by decide +kernel) (by decide +kernel)
set_option maxRecDepth 20000 in
theorem gX4_obeyed_X0_burstSpan : GoodIn wsX4_obeyed (wsV RX4 82 RX0 yX0_burstSpan wsX0_burstSpan) := goodIn_app (goodIn_of _ (by decide +kernel)) ggX4_obeyed_X0_burstSpan
set_option maxRecDepth 20000 in
theorem ggX4_obeyed_X0_mendSpan : GoodIn wsX4_obeyed wsX0_mendSpan := goodIn_r _ [62, 15, 30, 63, 51, 52, 53, 13, 54, 16, 18, 19, 20, 55, 56, 57, 58, 25, 64, 65, 66, 67, 21, 22, 23, 24, 89, 90, 91, 92] (by decide +kernel) (by decide +kernel)
set_option maxRecDepth 20000 in
theorem gX4_obeyed_X0_mendSpan : GoodIn wsX4_obeyed (wsV RX4 85 RX0 yX0_mendSpan wsX0_mendSpan) := goodIn_app (goodIn_of _ (by decide +kernel)) ggX4_obeyed_X0_mendSpan
set_option maxRecDepth 20000 in
theorem ggX4_obeyed_X0_cutLast : GoodIn wsX4_obeyed wsX0_cutLast := goodIn_r _ [71, 16, 63, 35, 89, 90, 91, 92] (by decide +kernel) (by decide +kernel)
set_option maxRecDepth 20000 in
theorem gX4_obeyed_X0_cutLast : GoodIn wsX4_obeyed (wsV RX4 71 RX0 yX0_cutLast wsX0_cutLast) := goodIn_app (goodIn_of _ (by decide +kernel)) ggX4_obeyed_X0_cutLast
theorem dX4_obeyed_0 : decode cX4_obeyed 0 = .ok (.aload_n 0, 1) := by decide +kernel
theorem dX4_obeyed_1 : decode cX4_obeyed 1 = .ok (.getfield 42, 3) := by decide +kernel
theorem dX4_obeyed_4 : decode cX4_obeyed 4 = .ok (.iload_n 1, 1) := by decide +kernel
theorem dX4_obeyed_5 : decode cX4_obeyed 5 = .ok (.iconst 0, 1) := by decide +kernel
theorem dX4_obeyed_6 : decode cX4_obeyed 6 = .ok (.invokevirtual 228, 3) := by decide +kernel
theorem dX4_obeyed_9 : decode cX4_obeyed 9 = .ok (.istore_n 2, 1) := by decide +kernel
theorem dX4_obeyed_10 : decode cX4_obeyed 10 = .ok (.aload_n 0, 1) := by decide +kernel
theorem dX4_obeyed_11 : decode cX4_obeyed 11 = .ok (.getfield 42, 3) := by decide +kernel
theorem dX4_obeyed_14 : decode cX4_obeyed 14 = .ok (.iload_n 1, 1) := by decide +kernel
theorem dX4_obeyed_15 : decode cX4_obeyed 15 = .ok (.iconst 1, 1) := by decide +kernel
theorem dX4_obeyed_16 : decode cX4_obeyed 16 = .ok (.invokevirtual 228, 3) := by decide +kernel
theorem dX4_obeyed_19 : decode cX4_obeyed 19 = .ok (.istore_n 3, 1) := by decide +kernel
theorem dX4_obeyed_20 : decode cX4_obeyed 20 = .ok (.aload_n 0, 1) := by decide +kernel
theorem dX4_obeyed_21 : decode cX4_obeyed 21 = .ok (.getfield 42, 3) := by decide +kernel
theorem dX4_obeyed_24 : decode cX4_obeyed 24 = .ok (.getfield 231, 3) := by decide +kernel
theorem dX4_obeyed_27 : decode cX4_obeyed 27 = .ok (.iload_n 1, 1) := by decide +kernel
theorem dX4_obeyed_28 : decode cX4_obeyed 28 = .ok (.baload, 1) := by decide +kernel
theorem dX4_obeyed_29 : decode cX4_obeyed 29 = .ok (.lookupswitch 116 #[(104, 51), (107, 79), (109, 107), (112, 89), (120, 98)], 51) := by decide +kernel
theorem dX4_obeyed_80 : decode cX4_obeyed 80 = .ok (.aload_n 0, 1) := by decide +kernel
theorem dX4_obeyed_81 : decode cX4_obeyed 81 = .ok (.getfield 12, 3) := by decide +kernel
theorem dX4_obeyed_84 : decode cX4_obeyed 84 = .ok (.iload_n 2, 1) := by decide +kernel
theorem dX4_obeyed_85 : decode cX4_obeyed 85 = .ok (.iload_n 3, 1) := by decide +kernel
theorem dX4_obeyed_86 : decode cX4_obeyed 86 = .ok (.aload_n 0, 1) := by decide +kernel
theorem dX4_obeyed_87 : decode cX4_obeyed 87 = .ok (.getfield 42, 3) := by decide +kernel
theorem dX4_obeyed_90 : decode cX4_obeyed 90 = .ok (.iload_n 1, 1) := by decide +kernel
theorem dX4_obeyed_91 : decode cX4_obeyed 91 = .ok (.iconst 2, 1) := by decide +kernel
theorem dX4_obeyed_92 : decode cX4_obeyed 92 = .ok (.invokevirtual 228, 3) := by decide +kernel
theorem dX4_obeyed_95 : decode cX4_obeyed 95 = .ok (.aload_n 0, 1) := by decide +kernel
theorem dX4_obeyed_96 : decode cX4_obeyed 96 = .ok (.getfield 42, 3) := by decide +kernel
theorem dX4_obeyed_99 : decode cX4_obeyed 99 = .ok (.iload_n 1, 1) := by decide +kernel
theorem dX4_obeyed_100 : decode cX4_obeyed 100 = .ok (.iconst 3, 1) := by decide +kernel
theorem dX4_obeyed_101 : decode cX4_obeyed 101 = .ok (.invokevirtual 228, 3) := by decide +kernel
theorem dX4_obeyed_104 : decode cX4_obeyed 104 = .ok (.invokevirtual 63, 3) := by decide +kernel
theorem dX4_obeyed_107 : decode cX4_obeyed 107 = .ok (.ireturn, 1) := by decide +kernel
theorem dX4_obeyed_108 : decode cX4_obeyed 108 = .ok (.aload_n 0, 1) := by decide +kernel
theorem dX4_obeyed_109 : decode cX4_obeyed 109 = .ok (.getfield 12, 3) := by decide +kernel
theorem dX4_obeyed_112 : decode cX4_obeyed 112 = .ok (.iload_n 2, 1) := by decide +kernel
theorem dX4_obeyed_113 : decode cX4_obeyed 113 = .ok (.iload_n 3, 1) := by decide +kernel
theorem dX4_obeyed_114 : decode cX4_obeyed 114 = .ok (.invokevirtual 75, 3) := by decide +kernel
theorem dX4_obeyed_117 : decode cX4_obeyed 117 = .ok (.ireturn, 1) := by decide +kernel
theorem dX4_obeyed_118 : decode cX4_obeyed 118 = .ok (.aload_n 0, 1) := by decide +kernel
theorem dX4_obeyed_119 : decode cX4_obeyed 119 = .ok (.getfield 12, 3) := by decide +kernel
theorem dX4_obeyed_122 : decode cX4_obeyed 122 = .ok (.iload_n 2, 1) := by decide +kernel
theorem dX4_obeyed_123 : decode cX4_obeyed 123 = .ok (.invokevirtual 79, 3) := by decide +kernel
theorem dX4_obeyed_126 : decode cX4_obeyed 126 = .ok (.ireturn, 1) := by decide +kernel
theorem dX4_obeyed_127 : decode cX4_obeyed 127 = .ok (.aload_n 0, 1) := by decide +kernel
theorem dX4_obeyed_128 : decode cX4_obeyed 128 = .ok (.getfield 12, 3) := by decide +kernel
theorem dX4_obeyed_131 : decode cX4_obeyed 131 = .ok (.iload_n 2, 1) := by decide +kernel
theorem dX4_obeyed_132 : decode cX4_obeyed 132 = .ok (.invokevirtual 82, 3) := by decide +kernel
theorem dX4_obeyed_135 : decode cX4_obeyed 135 = .ok (.ireturn, 1) := by decide +kernel
theorem dX4_obeyed_136 : decode cX4_obeyed 136 = .ok (.aload_n 0, 1) := by decide +kernel
theorem dX4_obeyed_137 : decode cX4_obeyed 137 = .ok (.getfield 12, 3) := by decide +kernel
theorem dX4_obeyed_140 : decode cX4_obeyed 140 = .ok (.iload_n 2, 1) := by decide +kernel
theorem dX4_obeyed_141 : decode cX4_obeyed 141 = .ok (.invokevirtual 85, 3) := by decide +kernel
theorem dX4_obeyed_144 : decode cX4_obeyed 144 = .ok (.ireturn, 1) := by decide +kernel
theorem dX4_obeyed_145 : decode cX4_obeyed 145 = .ok (.aload_n 0, 1) := by decide +kernel
theorem dX4_obeyed_146 : decode cX4_obeyed 146 = .ok (.getfield 12, 3) := by decide +kernel
theorem dX4_obeyed_149 : decode cX4_obeyed 149 = .ok (.invokevirtual 71, 3) := by decide +kernel
theorem dX4_obeyed_152 : decode cX4_obeyed 152 = .ok (.ireturn, 1) := by decide +kernel
theorem dX4_sizeOf_0 : decode cX4_sizeOf 0 = .ok (.iload_n 0, 1) := by decide +kernel
theorem dX4_sizeOf_1 : decode cX4_sizeOf 1 = .ok (.sipush 2048, 3) := by decide +kernel
theorem dX4_sizeOf_4 : decode cX4_sizeOf 4 = .ok (.idiv, 1) := by decide +kernel
theorem dX4_sizeOf_5 : decode cX4_sizeOf 5 = .ok (.ireturn, 1) := by decide +kernel
theorem dX4_bitsOf_0 : decode cX4_bitsOf 0 = .ok (.iload_n 0, 1) := by decide +kernel
theorem dX4_bitsOf_1 : decode cX4_bitsOf 1 = .ok (.sipush 2048, 3) := by decide +kernel
theorem dX4_bitsOf_4 : decode cX4_bitsOf 4 = .ok (.irem, 1) := by decide +kernel
theorem dX4_bitsOf_5 : decode cX4_bitsOf 5 = .ok (.ireturn, 1) := by decide +kernel
set_option maxRecDepth 20000 in
theorem ggX4_isTrip_X4_within : GoodIn wsX4_isTrip wsX4_within := goodIn_r _ [4] (by decide +kernel) (by decide +kernel)
set_option maxRecDepth 20000 in
theorem gX4_isTrip_X4_within : GoodIn wsX4_isTrip (va_wsS RX4 114 yX4_within wsX4_within) := goodIn_app (goodIn_of _ (by decide +kernel)) ggX4_isTrip_X4_within
theorem dX4_isTrip_0 : decode cX4_isTrip 0 = .ok (.iload_n 0, 1) := by decide +kernel
theorem dX4_isTrip_1 : decode cX4_isTrip 1 = .ok (.iconst 1, 1) := by decide +kernel
theorem dX4_isTrip_2 : decode cX4_isTrip 2 = .ok (.bipush 99, 2) := by decide +kernel
theorem dX4_isTrip_4 : decode cX4_isTrip 4 = .ok (.invokestatic 114, 3) := by decide +kernel
theorem dX4_isTrip_7 : decode cX4_isTrip 7 = .ok (.ifCond .eq 37, 3) := by decide +kernel
theorem dX4_isTrip_10 : decode cX4_isTrip 10 = .ok (.iload_n 1, 1) := by decide +kernel
theorem dX4_isTrip_11 : decode cX4_isTrip 11 = .ok (.iconst 1, 1) := by decide +kernel
theorem dX4_isTrip_12 : decode cX4_isTrip 12 = .ok (.bipush 99, 2) := by decide +kernel
theorem dX4_isTrip_14 : decode cX4_isTrip 14 = .ok (.invokestatic 114, 3) := by decide +kernel
theorem dX4_isTrip_17 : decode cX4_isTrip 17 = .ok (.ifCond .eq 27, 3) := by decide +kernel
theorem dX4_isTrip_20 : decode cX4_isTrip 20 = .ok (.iload_n 2, 1) := by decide +kernel
theorem dX4_isTrip_21 : decode cX4_isTrip 21 = .ok (.iconst 1, 1) := by decide +kernel
theorem dX4_isTrip_22 : decode cX4_isTrip 22 = .ok (.bipush 99, 2) := by decide +kernel
theorem dX4_isTrip_24 : decode cX4_isTrip 24 = .ok (.invokestatic 114, 3) := by decide +kernel
theorem dX4_isTrip_27 : decode cX4_isTrip 27 = .ok (.ifCond .eq 17, 3) := by decide +kernel
theorem dX4_isTrip_30 : decode cX4_isTrip 30 = .ok (.iload_n 3, 1) := by decide +kernel
theorem dX4_isTrip_31 : decode cX4_isTrip 31 = .ok (.iconst 1, 1) := by decide +kernel
theorem dX4_isTrip_32 : decode cX4_isTrip 32 = .ok (.bipush 99, 2) := by decide +kernel
theorem dX4_isTrip_34 : decode cX4_isTrip 34 = .ok (.invokestatic 114, 3) := by decide +kernel
theorem dX4_isTrip_37 : decode cX4_isTrip 37 = .ok (.ifCond .eq 7, 3) := by decide +kernel
theorem dX4_isTrip_40 : decode cX4_isTrip 40 = .ok (.iconst 1, 1) := by decide +kernel
theorem dX4_isTrip_41 : decode cX4_isTrip 41 = .ok (.goto 4, 3) := by decide +kernel
theorem dX4_isTrip_44 : decode cX4_isTrip 44 = .ok (.iconst 0, 1) := by decide +kernel
theorem dX4_isTrip_45 : decode cX4_isTrip 45 = .ok (.ireturn, 1) := by decide +kernel
theorem dX4_broughtInHour_0 : decode cX4_broughtInHour 0 = .ok (.bipush 60, 2) := by decide +kernel
theorem dX4_broughtInHour_2 : decode cX4_broughtInHour 2 = .ok (.iload_n 0, 1) := by decide +kernel
theorem dX4_broughtInHour_3 : decode cX4_broughtInHour 3 = .ok (.imul, 1) := by decide +kernel
theorem dX4_broughtInHour_4 : decode cX4_broughtInHour 4 = .ok (.iload_n 1, 1) := by decide +kernel
theorem dX4_broughtInHour_5 : decode cX4_broughtInHour 5 = .ok (.imul, 1) := by decide +kernel
theorem dX4_broughtInHour_6 : decode cX4_broughtInHour 6 = .ok (.iload_n 2, 1) := by decide +kernel
theorem dX4_broughtInHour_7 : decode cX4_broughtInHour 7 = .ok (.iconst 2, 1) := by decide +kernel
theorem dX4_broughtInHour_8 : decode cX4_broughtInHour 8 = .ok (.iload_n 3, 1) := by decide +kernel
theorem dX4_broughtInHour_9 : decode cX4_broughtInHour 9 = .ok (.imul, 1) := by decide +kernel
theorem dX4_broughtInHour_10 : decode cX4_broughtInHour 10 = .ok (.iadd, 1) := by decide +kernel
theorem dX4_broughtInHour_11 : decode cX4_broughtInHour 11 = .ok (.iload 4, 2) := by decide +kernel
theorem dX4_broughtInHour_13 : decode cX4_broughtInHour 13 = .ok (.iadd, 1) := by decide +kernel
theorem dX4_broughtInHour_14 : decode cX4_broughtInHour 14 = .ok (.idiv, 1) := by decide +kernel
theorem dX4_broughtInHour_15 : decode cX4_broughtInHour 15 = .ok (.bipush 60, 2) := by decide +kernel
theorem dX4_broughtInHour_17 : decode cX4_broughtInHour 17 = .ok (.iload_n 1, 1) := by decide +kernel
theorem dX4_broughtInHour_18 : decode cX4_broughtInHour 18 = .ok (.imul, 1) := by decide +kernel
theorem dX4_broughtInHour_19 : decode cX4_broughtInHour 19 = .ok (.iload_n 2, 1) := by decide +kernel
theorem dX4_broughtInHour_20 : decode cX4_broughtInHour 20 = .ok (.idiv, 1) := by decide +kernel
theorem dX4_broughtInHour_21 : decode cX4_broughtInHour 21 = .ok (.invokestatic 223, 3) := by decide +kernel
theorem dX4_broughtInHour_24 : decode cX4_broughtInHour 24 = .ok (.ireturn, 1) := by decide +kernel
theorem dX5_init_0 : decode cX5_init 0 = .ok (.aload_n 0, 1) := by decide +kernel
theorem dX5_init_1 : decode cX5_init 1 = .ok (.invokespecial 1, 3) := by decide +kernel
theorem dX5_init_4 : decode cX5_init 4 = .ok (.aload_n 0, 1) := by decide +kernel
theorem dX5_init_5 : decode cX5_init 5 = .ok (.bipush 58, 2) := by decide +kernel
theorem dX5_init_7 : decode cX5_init 7 = .ok (.newarray .int, 2) := by decide +kernel
theorem dX5_init_9 : decode cX5_init 9 = .ok (.putfield 7, 3) := by decide +kernel
theorem dX5_init_12 : decode cX5_init 12 = .ok (.aload_n 0, 1) := by decide +kernel
theorem dX5_init_13 : decode cX5_init 13 = .ok (.bipush 58, 2) := by decide +kernel
theorem dX5_init_15 : decode cX5_init 15 = .ok (.newarray .int, 2) := by decide +kernel
theorem dX5_init_17 : decode cX5_init 17 = .ok (.putfield 13, 3) := by decide +kernel
theorem dX5_init_20 : decode cX5_init 20 = .ok (.aload_n 0, 1) := by decide +kernel
theorem dX5_init_21 : decode cX5_init 21 = .ok (.sipush 290, 3) := by decide +kernel
theorem dX5_init_24 : decode cX5_init 24 = .ok (.newarray .int, 2) := by decide +kernel
theorem dX5_init_26 : decode cX5_init 26 = .ok (.putfield 16, 3) := by decide +kernel
theorem dX5_init_29 : decode cX5_init 29 = .ok (.aload_n 0, 1) := by decide +kernel
theorem dX5_init_30 : decode cX5_init 30 = .ok (.iconst 3, 1) := by decide +kernel
theorem dX5_init_31 : decode cX5_init 31 = .ok (.newarray .int, 2) := by decide +kernel
theorem dX5_init_33 : decode cX5_init 33 = .ok (.putfield 19, 3) := by decide +kernel
theorem dX5_init_36 : decode cX5_init 36 = .ok (.aload_n 0, 1) := by decide +kernel
theorem dX5_init_37 : decode cX5_init 37 = .ok (.bipush 120, 2) := by decide +kernel
theorem dX5_init_39 : decode cX5_init 39 = .ok (.newarray .int, 2) := by decide +kernel
theorem dX5_init_41 : decode cX5_init 41 = .ok (.putfield 22, 3) := by decide +kernel
theorem dX5_init_44 : decode cX5_init 44 = .ok (.aload_n 0, 1) := by decide +kernel
theorem dX5_init_45 : decode cX5_init 45 = .ok (.bipush 11, 2) := by decide +kernel
theorem dX5_init_47 : decode cX5_init 47 = .ok (.newarray .int, 2) := by decide +kernel
theorem dX5_init_49 : decode cX5_init 49 = .ok (.putfield 25, 3) := by decide +kernel
theorem dX5_init_52 : decode cX5_init 52 = .ok (.aload_n 0, 1) := by decide +kernel
theorem dX5_init_53 : decode cX5_init 53 = .ok (.bipush 11, 2) := by decide +kernel
theorem dX5_init_55 : decode cX5_init 55 = .ok (.newarray .int, 2) := by decide +kernel
theorem dX5_init_57 : decode cX5_init 57 = .ok (.putfield 28, 3) := by decide +kernel
theorem dX5_init_60 : decode cX5_init 60 = .ok (.aload_n 0, 1) := by decide +kernel
theorem dX5_init_61 : decode cX5_init 61 = .ok (.iconst 4, 1) := by decide +kernel
theorem dX5_init_62 : decode cX5_init 62 = .ok (.newarray .int, 2) := by decide +kernel
theorem dX5_init_64 : decode cX5_init 64 = .ok (.putfield 31, 3) := by decide +kernel
theorem dX5_init_67 : decode cX5_init 67 = .ok (.aload_n 0, 1) := by decide +kernel
theorem dX5_init_68 : decode cX5_init 68 = .ok (.bipush 58, 2) := by decide +kernel
theorem dX5_init_70 : decode cX5_init 70 = .ok (.newarray .int, 2) := by decide +kernel
theorem dX5_init_72 : decode cX5_init 72 = .ok (.putfield 34, 3) := by decide +kernel
theorem dX5_init_75 : decode cX5_init 75 = .ok (.aload_n 0, 1) := by decide +kernel
theorem dX5_init_76 : decode cX5_init 76 = .ok (.getfield 7, 3) := by decide +kernel
theorem dX5_init_79 : decode cX5_init 79 = .ok (.iconst 2, 1) := by decide +kernel
theorem dX5_init_80 : decode cX5_init 80 = .ok (.bipush 10, 2) := by decide +kernel
theorem dX5_init_82 : decode cX5_init 82 = .ok (.iastore, 1) := by decide +kernel
theorem dX5_init_83 : decode cX5_init 83 = .ok (.aload_n 0, 1) := by decide +kernel
theorem dX5_init_84 : decode cX5_init 84 = .ok (.getfield 7, 3) := by decide +kernel
theorem dX5_init_87 : decode cX5_init 87 = .ok (.iconst 3, 1) := by decide +kernel
theorem dX5_init_88 : decode cX5_init 88 = .ok (.bipush 20, 2) := by decide +kernel
theorem dX5_init_90 : decode cX5_init 90 = .ok (.iastore, 1) := by decide +kernel
theorem dX5_init_91 : decode cX5_init 91 = .ok (.aload_n 0, 1) := by decide +kernel
theorem dX5_init_92 : decode cX5_init 92 = .ok (.getfield 7, 3) := by decide +kernel
theorem dX5_init_95 : decode cX5_init 95 = .ok (.iconst 4, 1) := by decide +kernel
theorem dX5_init_96 : decode cX5_init 96 = .ok (.bipush 30, 2) := by decide +kernel
theorem dX5_init_98 : decode cX5_init 98 = .ok (.iastore, 1) := by decide +kernel
theorem dX5_init_99 : decode cX5_init 99 = .ok (.aload_n 0, 1) := by decide +kernel
theorem dX5_init_100 : decode cX5_init 100 = .ok (.getfield 7, 3) := by decide +kernel
theorem dX5_init_103 : decode cX5_init 103 = .ok (.iconst 5, 1) := by decide +kernel
theorem dX5_init_104 : decode cX5_init 104 = .ok (.bipush 100, 2) := by decide +kernel
theorem dX5_init_106 : decode cX5_init 106 = .ok (.iastore, 1) := by decide +kernel
theorem dX5_init_107 : decode cX5_init 107 = .ok (.aload_n 0, 1) := by decide +kernel
theorem dX5_init_108 : decode cX5_init 108 = .ok (.getfield 7, 3) := by decide +kernel
theorem dX5_init_111 : decode cX5_init 111 = .ok (.bipush 6, 2) := by decide +kernel
theorem dX5_init_113 : decode cX5_init 113 = .ok (.iconst 5, 1) := by decide +kernel
theorem dX5_init_114 : decode cX5_init 114 = .ok (.iastore, 1) := by decide +kernel
theorem dX5_init_115 : decode cX5_init 115 = .ok (.return_, 1) := by decide +kernel
theorem dX5_in_0 : decode cX5_in 0 = .ok (.iload_n 0, 1) := by decide +kernel
theorem dX5_in_1 : decode cX5_in 1 = .ok (.iload_n 1, 1) := by decide +kernel
theorem dX5_in_2 : decode cX5_in 2 = .ok (.if_icmp .lt 12, 3) := by decide +kernel
theorem dX5_in_5 : decode cX5_in 5 = .ok (.iload_n 0, 1) := by decide +kernel
theorem dX5_in_6 : decode cX5_in 6 = .ok (.iload_n 2, 1) := by decide +kernel
theorem dX5_in_7 : decode cX5_in 7 = .ok (.if_icmp .gt 7, 3) := by decide +kernel
theorem dX5_in_10 : decode cX5_in 10 = .ok (.iconst 1, 1) := by decide +kernel
theorem dX5_in_11 : decode cX5_in 11 = .ok (.goto 4, 3) := by decide +kernel
theorem dX5_in_14 : decode cX5_in 14 = .ok (.iconst 0, 1) := by decide +kernel
theorem dX5_in_15 : decode cX5_in 15 = .ok (.ireturn, 1) := by decide +kernel
theorem dX5_has_0 : decode cX5_has 0 = .ok (.iload_n 0, 1) := by decide +kernel
theorem dX5_has_1 : decode cX5_has 1 = .ok (.iload_n 1, 1) := by decide +kernel
theorem dX5_has_2 : decode cX5_has 2 = .ok (.ishr, 1) := by decide +kernel
theorem dX5_has_3 : decode cX5_has 3 = .ok (.iconst 1, 1) := by decide +kernel
theorem dX5_has_4 : decode cX5_has 4 = .ok (.iand, 1) := by decide +kernel
theorem dX5_has_5 : decode cX5_has 5 = .ok (.iconst 1, 1) := by decide +kernel
theorem dX5_has_6 : decode cX5_has 6 = .ok (.if_icmp .ne 7, 3) := by decide +kernel
theorem dX5_has_9 : decode cX5_has 9 = .ok (.iconst 1, 1) := by decide +kernel
theorem dX5_has_10 : decode cX5_has 10 = .ok (.goto 4, 3) := by decide +kernel
theorem dX5_has_13 : decode cX5_has 13 = .ok (.iconst 0, 1) := by decide +kernel
theorem dX5_has_14 : decode cX5_has 14 = .ok (.ireturn, 1) := by decide +kernel
theorem dX5_ones_0 : decode cX5_ones 0 = .ok (.iconst 0, 1) := by decide +kernel
theorem dX5_ones_1 : decode cX5_ones 1 = .ok (.istore_n 1, 1) := by decide +kernel
theorem dX5_ones_2 : decode cX5_ones 2 = .ok (.iconst 0, 1) := by decide +kernel
theorem dX5_ones_3 : decode cX5_ones 3 = .ok (.istore_n 2, 1) := by decide +kernel
theorem dX5_ones_4 : decode cX5_ones 4 = .ok (.iload_n 2, 1) := by decide +kernel
theorem dX5_ones_5 : decode cX5_ones 5 = .ok (.bipush 10, 2) := by decide +kernel
theorem dX5_ones_7 : decode cX5_ones 7 = .ok (.if_icmp .gt 17, 3) := by decide +kernel
theorem dX5_ones_10 : decode cX5_ones 10 = .ok (.iload_n 1, 1) := by decide +kernel
theorem dX5_ones_11 : decode cX5_ones 11 = .ok (.iload_n 0, 1) := by decide +kernel
theorem dX5_ones_12 : decode cX5_ones 12 = .ok (.iload_n 2, 1) := by decide +kernel
theorem dX5_ones_13 : decode cX5_ones 13 = .ok (.ishr, 1) := by decide +kernel
theorem dX5_ones_14 : decode cX5_ones 14 = .ok (.iconst 1, 1) := by decide +kernel
theorem dX5_ones_15 : decode cX5_ones 15 = .ok (.iand, 1) := by decide +kernel
theorem dX5_ones_16 : decode cX5_ones 16 = .ok (.iadd, 1) := by decide +kernel
theorem dX5_ones_17 : decode cX5_ones 17 = .ok (.istore_n 1, 1) := by decide +kernel
theorem dX5_ones_18 : decode cX5_ones 18 = .ok (.iinc 2 1, 3) := by decide +kernel
theorem dX5_ones_21 : decode cX5_ones 21 = .ok (.goto (-17), 3) := by decide +kernel
theorem dX5_ones_24 : decode cX5_ones 24 = .ok (.iload_n 1, 1) := by decide +kernel
theorem dX5_ones_25 : decode cX5_ones 25 = .ok (.ireturn, 1) := by decide +kernel
theorem dX5_bring_0 : decode cX5_bring 0 = .ok (.iconst 0, 1) := by decide +kernel
theorem dX5_bring_1 : decode cX5_bring 1 = .ok (.istore 4, 2) := by decide +kernel
theorem dX5_bring_3 : decode cX5_bring 3 = .ok (.iload 4, 2) := by decide +kernel
theorem dX5_bring_5 : decode cX5_bring 5 = .ok (.bipush 58, 2) := by decide +kernel
theorem dX5_bring_7 : decode cX5_bring 7 = .ok (.if_icmp .ge 21, 3) := by decide +kernel
theorem dX5_bring_10 : decode cX5_bring 10 = .ok (.aload_n 2, 1) := by decide +kernel
theorem dX5_bring_11 : decode cX5_bring 11 = .ok (.iload_n 3, 1) := by decide +kernel
theorem dX5_bring_12 : decode cX5_bring 12 = .ok (.iload 4, 2) := by decide +kernel
theorem dX5_bring_14 : decode cX5_bring 14 = .ok (.iadd, 1) := by decide +kernel
theorem dX5_bring_15 : decode cX5_bring 15 = .ok (.aload_n 0, 1) := by decide +kernel
theorem dX5_bring_16 : decode cX5_bring 16 = .ok (.iload_n 1, 1) := by decide +kernel
theorem dX5_bring_17 : decode cX5_bring 17 = .ok (.iload 4, 2) := by decide +kernel
theorem dX5_bring_19 : decode cX5_bring 19 = .ok (.iadd, 1) := by decide +kernel
theorem dX5_bring_20 : decode cX5_bring 20 = .ok (.iaload, 1) := by decide +kernel
theorem dX5_bring_21 : decode cX5_bring 21 = .ok (.iastore, 1) := by decide +kernel
theorem dX5_bring_22 : decode cX5_bring 22 = .ok (.iinc 4 1, 3) := by decide +kernel
theorem dX5_bring_25 : decode cX5_bring 25 = .ok (.goto (-22), 3) := by decide +kernel
theorem dX5_bring_28 : decode cX5_bring 28 = .ok (.return_, 1) := by decide +kernel
theorem dX5_refuse_0 : decode cX5_refuse 0 = .ok (.aload_n 0, 1) := by decide +kernel
theorem dX5_refuse_1 : decode cX5_refuse 1 = .ok (.getfield 19, 3) := by decide +kernel
theorem dX5_refuse_4 : decode cX5_refuse 4 = .ok (.ldc 37, 2) := by decide +kernel
theorem dX5_refuse_6 : decode cX5_refuse 6 = .ok (.iload_n 1, 1) := by decide +kernel
theorem dX5_refuse_7 : decode cX5_refuse 7 = .ok (.isub, 1) := by decide +kernel
theorem dX5_refuse_8 : decode cX5_refuse 8 = .ok (.dup2, 1) := by decide +kernel
theorem dX5_refuse_9 : decode cX5_refuse 9 = .ok (.iaload, 1) := by decide +kernel
theorem dX5_refuse_10 : decode cX5_refuse 10 = .ok (.iconst 1, 1) := by decide +kernel
theorem dX5_refuse_11 : decode cX5_refuse 11 = .ok (.iadd, 1) := by decide +kernel
theorem dX5_refuse_12 : decode cX5_refuse 12 = .ok (.iastore, 1) := by decide +kernel
theorem dX5_refuse_13 : decode cX5_refuse 13 = .ok (.iload_n 1, 1) := by decide +kernel
theorem dX5_refuse_14 : decode cX5_refuse 14 = .ok (.ireturn, 1) := by decide +kernel
set_option maxRecDepth 20000 in
theorem ggX5_note_X5_bring : GoodIn wsX5_note wsX5_bring := goodIn_r _ [7] (by decide +kernel) (by decide +kernel)
set_option maxRecDepth 20000 in
theorem gX5_note_X5_bring : GoodIn wsX5_note (va_wsS RX5 42 yX5_bring wsX5_bring) := goodIn_app (goodIn_of _ (by decide +kernel)) ggX5_note_X5_bring
theorem dX5_note_0 : decode cX5_note 0 = .ok (.aload_n 0, 1) := by decide +kernel
theorem dX5_note_1 : decode cX5_note 1 = .ok (.getfield 38, 3) := by decide +kernel
theorem dX5_note_4 : decode cX5_note 4 = .ok (.iconst 5, 1) := by decide +kernel
theorem dX5_note_5 : decode cX5_note 5 = .ok (.if_icmp .ne 43, 3) := by decide +kernel
theorem dX5_note_8 : decode cX5_note 8 = .ok (.iconst 0, 1) := by decide +kernel
theorem dX5_note_9 : decode cX5_note 9 = .ok (.istore_n 1, 1) := by decide +kernel
theorem dX5_note_10 : decode cX5_note 10 = .ok (.iload_n 1, 1) := by decide +kernel
theorem dX5_note_11 : decode cX5_note 11 = .ok (.sipush 232, 3) := by decide +kernel
theorem dX5_note_14 : decode cX5_note 14 = .ok (.if_icmp .ge 24, 3) := by decide +kernel
theorem dX5_note_17 : decode cX5_note 17 = .ok (.aload_n 0, 1) := by decide +kernel
theorem dX5_note_18 : decode cX5_note 18 = .ok (.getfield 16, 3) := by decide +kernel
theorem dX5_note_21 : decode cX5_note 21 = .ok (.iload_n 1, 1) := by decide +kernel
theorem dX5_note_22 : decode cX5_note 22 = .ok (.aload_n 0, 1) := by decide +kernel
theorem dX5_note_23 : decode cX5_note 23 = .ok (.getfield 16, 3) := by decide +kernel
theorem dX5_note_26 : decode cX5_note 26 = .ok (.iload_n 1, 1) := by decide +kernel
theorem dX5_note_27 : decode cX5_note 27 = .ok (.bipush 58, 2) := by decide +kernel
theorem dX5_note_29 : decode cX5_note 29 = .ok (.iadd, 1) := by decide +kernel
theorem dX5_note_30 : decode cX5_note 30 = .ok (.iaload, 1) := by decide +kernel
theorem dX5_note_31 : decode cX5_note 31 = .ok (.iastore, 1) := by decide +kernel
theorem dX5_note_32 : decode cX5_note 32 = .ok (.iinc 1 1, 3) := by decide +kernel
theorem dX5_note_35 : decode cX5_note 35 = .ok (.goto (-25), 3) := by decide +kernel
theorem dX5_note_38 : decode cX5_note 38 = .ok (.aload_n 0, 1) := by decide +kernel
theorem dX5_note_39 : decode cX5_note 39 = .ok (.dup, 1) := by decide +kernel
theorem dX5_note_40 : decode cX5_note 40 = .ok (.getfield 38, 3) := by decide +kernel
theorem dX5_note_43 : decode cX5_note 43 = .ok (.iconst 1, 1) := by decide +kernel
theorem dX5_note_44 : decode cX5_note 44 = .ok (.isub, 1) := by decide +kernel
theorem dX5_note_45 : decode cX5_note 45 = .ok (.putfield 38, 3) := by decide +kernel
theorem dX5_note_48 : decode cX5_note 48 = .ok (.aload_n 0, 1) := by decide +kernel
theorem dX5_note_49 : decode cX5_note 49 = .ok (.getfield 7, 3) := by decide +kernel
theorem dX5_note_52 : decode cX5_note 52 = .ok (.iconst 0, 1) := by decide +kernel
theorem dX5_note_53 : decode cX5_note 53 = .ok (.aload_n 0, 1) := by decide +kernel
theorem dX5_note_54 : decode cX5_note 54 = .ok (.getfield 16, 3) := by decide +kernel
theorem dX5_note_57 : decode cX5_note 57 = .ok (.bipush 58, 2) := by decide +kernel
theorem dX5_note_59 : decode cX5_note 59 = .ok (.aload_n 0, 1) := by decide +kernel
theorem dX5_note_60 : decode cX5_note 60 = .ok (.getfield 38, 3) := by decide +kernel
theorem dX5_note_63 : decode cX5_note 63 = .ok (.imul, 1) := by decide +kernel
theorem dX5_note_64 : decode cX5_note 64 = .ok (.invokestatic 42, 3) := by decide +kernel
theorem dX5_note_67 : decode cX5_note 67 = .ok (.aload_n 0, 1) := by decide +kernel
theorem dX5_note_68 : decode cX5_note 68 = .ok (.dup, 1) := by decide +kernel
theorem dX5_note_69 : decode cX5_note 69 = .ok (.getfield 38, 3) := by decide +kernel
theorem dX5_note_72 : decode cX5_note 72 = .ok (.iconst 1, 1) := by decide +kernel
theorem dX5_note_73 : decode cX5_note 73 = .ok (.iadd, 1) := by decide +kernel
theorem dX5_note_74 : decode cX5_note 74 = .ok (.putfield 38, 3) := by decide +kernel
theorem dX5_note_77 : decode cX5_note 77 = .ok (.return_, 1) := by decide +kernel
set_option maxRecDepth 20000 in
theorem ggX5_isSpan_X5_in : GoodIn wsX5_isSpan wsX5_in := goodIn_r _ [5] (by decide +kernel) (by decide +kernel)
set_option maxRecDepth 20000 in
theorem gX5_isSpan_X5_in : GoodIn wsX5_isSpan (va_wsS RX5 46 yX5_in wsX5_in) := goodIn_app (goodIn_of _ (by decide +kernel)) ggX5_isSpan_X5_in
theorem dX5_isSpan_0 : decode cX5_isSpan 0 = .ok (.iload_n 1, 1) := by decide +kernel
theorem dX5_isSpan_1 : decode cX5_isSpan 1 = .ok (.iconst 0, 1) := by decide +kernel
theorem dX5_isSpan_2 : decode cX5_isSpan 2 = .ok (.aload_n 0, 1) := by decide +kernel
theorem dX5_isSpan_3 : decode cX5_isSpan 3 = .ok (.getfield 7, 3) := by decide +kernel
theorem dX5_isSpan_6 : decode cX5_isSpan 6 = .ok (.iconst 0, 1) := by decide +kernel
theorem dX5_isSpan_7 : decode cX5_isSpan 7 = .ok (.iaload, 1) := by decide +kernel
theorem dX5_isSpan_8 : decode cX5_isSpan 8 = .ok (.iconst 1, 1) := by decide +kernel
theorem dX5_isSpan_9 : decode cX5_isSpan 9 = .ok (.isub, 1) := by decide +kernel
theorem dX5_isSpan_10 : decode cX5_isSpan 10 = .ok (.invokestatic 46, 3) := by decide +kernel
theorem dX5_isSpan_13 : decode cX5_isSpan 13 = .ok (.ireturn, 1) := by decide +kernel
set_option maxRecDepth 20000 in
theorem ggX5_isNode_X5_in : GoodIn wsX5_isNode wsX5_in := goodIn_r _ [5] (by decide +kernel) (by decide +kernel)
set_option maxRecDepth 20000 in
theorem gX5_isNode_X5_in : GoodIn wsX5_isNode (va_wsS RX5 46 yX5_in wsX5_in) := goodIn_app (goodIn_of _ (by decide +kernel)) ggX5_isNode_X5_in
theorem dX5_isNode_0 : decode cX5_isNode 0 = .ok (.iload_n 1, 1) := by decide +kernel
theorem dX5_isNode_1 : decode cX5_isNode 1 = .ok (.iconst 0, 1) := by decide +kernel
theorem dX5_isNode_2 : decode cX5_isNode 2 = .ok (.aload_n 0, 1) := by decide +kernel
theorem dX5_isNode_3 : decode cX5_isNode 3 = .ok (.getfield 7, 3) := by decide +kernel
theorem dX5_isNode_6 : decode cX5_isNode 6 = .ok (.iconst 0, 1) := by decide +kernel
theorem dX5_isNode_7 : decode cX5_isNode 7 = .ok (.iaload, 1) := by decide +kernel
theorem dX5_isNode_8 : decode cX5_isNode 8 = .ok (.invokestatic 46, 3) := by decide +kernel
theorem dX5_isNode_11 : decode cX5_isNode 11 = .ok (.ireturn, 1) := by decide +kernel
theorem dX5_ofSpan_0 : decode cX5_ofSpan 0 = .ok (.aload_n 0, 1) := by decide +kernel
theorem dX5_ofSpan_1 : decode cX5_ofSpan 1 = .ok (.getfield 7, 3) := by decide +kernel
theorem dX5_ofSpan_4 : decode cX5_ofSpan 4 = .ok (.bipush 8, 2) := by decide +kernel
theorem dX5_ofSpan_6 : decode cX5_ofSpan 6 = .ok (.iconst 5, 1) := by decide +kernel
theorem dX5_ofSpan_7 : decode cX5_ofSpan 7 = .ok (.iload_n 1, 1) := by decide +kernel
theorem dX5_ofSpan_8 : decode cX5_ofSpan 8 = .ok (.imul, 1) := by decide +kernel
theorem dX5_ofSpan_9 : decode cX5_ofSpan 9 = .ok (.iadd, 1) := by decide +kernel
theorem dX5_ofSpan_10 : decode cX5_ofSpan 10 = .ok (.iload_n 2, 1) := by decide +kernel
theorem dX5_ofSpan_11 : decode cX5_ofSpan 11 = .ok (.iadd, 1) := by decide +kernel
theorem dX5_ofSpan_12 : decode cX5_ofSpan 12 = .ok (.iaload, 1) := by decide +kernel
theorem dX5_ofSpan_13 : decode cX5_ofSpan 13 = .ok (.ireturn, 1) := by decide +kernel
set_option maxRecDepth 20000 in
theorem ggX5_lengthsOf_X5_ofSpan : GoodIn wsX5_lengthsOf wsX5_ofSpan := goodIn_r _ [5, 6, 7, 8, 9, 10, 11, 12, 13, 14, 15, 16, 17, 18, 19, 20, 21, 22] (by decide +kernel) (by decide +kernel)
set_option maxRecDepth 20000 in
theorem gX5_lengthsOf_X5_ofSpan : GoodIn wsX5_lengthsOf (wsV RX5 50 RX5 yX5_ofSpan wsX5_ofSpan) := goodIn_app (goodIn_of _ (by decide +kernel)) ggX5_lengthsOf_X5_ofSpan
theorem dX5_lengthsOf_0 : decode cX5_lengthsOf 0 = .ok (.aload_n 0, 1) := by decide +kernel
theorem dX5_lengthsOf_1 : decode cX5_lengthsOf 1 = .ok (.iload_n 1, 1) := by decide +kernel
theorem dX5_lengthsOf_2 : decode cX5_lengthsOf 2 = .ok (.iconst 3, 1) := by decide +kernel
theorem dX5_lengthsOf_3 : decode cX5_lengthsOf 3 = .ok (.invokevirtual 50, 3) := by decide +kernel
theorem dX5_lengthsOf_6 : decode cX5_lengthsOf 6 = .ok (.iconst 1, 1) := by decide +kernel
theorem dX5_lengthsOf_7 : decode cX5_lengthsOf 7 = .ok (.if_icmp .ne 14, 3) := by decide +kernel
theorem dX5_lengthsOf_10 : decode cX5_lengthsOf 10 = .ok (.iconst 2, 1) := by decide +kernel
theorem dX5_lengthsOf_11 : decode cX5_lengthsOf 11 = .ok (.aload_n 0, 1) := by decide +kernel
theorem dX5_lengthsOf_12 : decode cX5_lengthsOf 12 = .ok (.iload_n 1, 1) := by decide +kernel
theorem dX5_lengthsOf_13 : decode cX5_lengthsOf 13 = .ok (.iconst 0, 1) := by decide +kernel
theorem dX5_lengthsOf_14 : decode cX5_lengthsOf 14 = .ok (.invokevirtual 50, 3) := by decide +kernel
theorem dX5_lengthsOf_17 : decode cX5_lengthsOf 17 = .ok (.imul, 1) := by decide +kernel
theorem dX5_lengthsOf_18 : decode cX5_lengthsOf 18 = .ok (.goto 9, 3) := by decide +kernel
theorem dX5_lengthsOf_21 : decode cX5_lengthsOf 21 = .ok (.aload_n 0, 1) := by decide +kernel
theorem dX5_lengthsOf_22 : decode cX5_lengthsOf 22 = .ok (.iload_n 1, 1) := by decide +kernel
theorem dX5_lengthsOf_23 : decode cX5_lengthsOf 23 = .ok (.iconst 0, 1) := by decide +kernel
theorem dX5_lengthsOf_24 : decode cX5_lengthsOf 24 = .ok (.invokevirtual 50, 3) := by decide +kernel
theorem dX5_lengthsOf_27 : decode cX5_lengthsOf 27 = .ok (.ireturn, 1) := by decide +kernel
theorem dX5_hardOf_0 : decode cX5_hardOf 0 = .ok (.iload_n 0, 1) := by decide +kernel
theorem dX5_hardOf_1 : decode cX5_hardOf 1 = .ok (.ifCond .ne 8, 3) := by decide +kernel
theorem dX5_hardOf_4 : decode cX5_hardOf 4 = .ok (.bipush 80, 2) := by decide +kernel
theorem dX5_hardOf_6 : decode cX5_hardOf 6 = .ok (.goto 24, 3) := by decide +kernel
theorem dX5_hardOf_9 : decode cX5_hardOf 9 = .ok (.iload_n 0, 1) := by decide +kernel
theorem dX5_hardOf_10 : decode cX5_hardOf 10 = .ok (.iconst 1, 1) := by decide +kernel
theorem dX5_hardOf_11 : decode cX5_hardOf 11 = .ok (.if_icmp .ne 8, 3) := by decide +kernel
theorem dX5_hardOf_14 : decode cX5_hardOf 14 = .ok (.bipush 20, 2) := by decide +kernel
theorem dX5_hardOf_16 : decode cX5_hardOf 16 = .ok (.goto 14, 3) := by decide +kernel
theorem dX5_hardOf_19 : decode cX5_hardOf 19 = .ok (.iload_n 0, 1) := by decide +kernel
theorem dX5_hardOf_20 : decode cX5_hardOf 20 = .ok (.iconst 2, 1) := by decide +kernel
theorem dX5_hardOf_21 : decode cX5_hardOf 21 = .ok (.if_icmp .ne 8, 3) := by decide +kernel
theorem dX5_hardOf_24 : decode cX5_hardOf 24 = .ok (.bipush 8, 2) := by decide +kernel
theorem dX5_hardOf_26 : decode cX5_hardOf 26 = .ok (.goto 4, 3) := by decide +kernel
theorem dX5_hardOf_29 : decode cX5_hardOf 29 = .ok (.iconst 2, 1) := by decide +kernel
theorem dX5_hardOf_30 : decode cX5_hardOf 30 = .ok (.ireturn, 1) := by decide +kernel
theorem dX5_standsOf_0 : decode cX5_standsOf 0 = .ok (.iload_n 0, 1) := by decide +kernel
theorem dX5_standsOf_1 : decode cX5_standsOf 1 = .ok (.ifCond .ne 8, 3) := by decide +kernel
theorem dX5_standsOf_4 : decode cX5_standsOf 4 = .ok (.bipush 100, 2) := by decide +kernel
theorem dX5_standsOf_6 : decode cX5_standsOf 6 = .ok (.goto 27, 3) := by decide +kernel
theorem dX5_standsOf_9 : decode cX5_standsOf 9 = .ok (.iload_n 0, 1) := by decide +kernel
theorem dX5_standsOf_10 : decode cX5_standsOf 10 = .ok (.iconst 1, 1) := by decide +kernel
theorem dX5_standsOf_11 : decode cX5_standsOf 11 = .ok (.if_icmp .ne 8, 3) := by decide +kernel
theorem dX5_standsOf_14 : decode cX5_standsOf 14 = .ok (.bipush 120, 2) := by decide +kernel
theorem dX5_standsOf_16 : decode cX5_standsOf 16 = .ok (.goto 17, 3) := by decide +kernel
theorem dX5_standsOf_19 : decode cX5_standsOf 19 = .ok (.iload_n 0, 1) := by decide +kernel
theorem dX5_standsOf_20 : decode cX5_standsOf 20 = .ok (.iconst 2, 1) := by decide +kernel
theorem dX5_standsOf_21 : decode cX5_standsOf 21 = .ok (.if_icmp .ne 9, 3) := by decide +kernel
theorem dX5_standsOf_24 : decode cX5_standsOf 24 = .ok (.sipush 150, 3) := by decide +kernel
theorem dX5_standsOf_27 : decode cX5_standsOf 27 = .ok (.goto 6, 3) := by decide +kernel
theorem dX5_standsOf_30 : decode cX5_standsOf 30 = .ok (.sipush 180, 3) := by decide +kernel
theorem dX5_standsOf_33 : decode cX5_standsOf 33 = .ok (.ireturn, 1) := by decide +kernel
set_option maxRecDepth 20000 in
theorem ggX5_lossOf_X5_ofSpan : GoodIn wsX5_lossOf wsX5_ofSpan := goodIn_r _ [5, 6, 10, 11, 12, 13, 14, 15, 16, 17, 18, 19, 20, 21, 22, 23, 24, 25] (by decide +kernel) (by decide +kernel)
set_option maxRecDepth 20000 in
theorem gX5_lossOf_X5_ofSpan : GoodIn wsX5_lossOf (wsV RX5 50 RX5 yX5_ofSpan wsX5_ofSpan) := goodIn_app (goodIn_of _ (by decide +kernel)) ggX5_lossOf_X5_ofSpan
set_option maxRecDepth 20000 in
theorem ggX5_lossOf_X5_hardOf : GoodIn wsX5_lossOf wsX5_hardOf := goodIn_r _ [9] (by decide +kernel) (by decide +kernel)
set_option maxRecDepth 20000 in
theorem gX5_lossOf_X5_hardOf : GoodIn wsX5_lossOf (va_wsS RX5 54 yX5_hardOf wsX5_hardOf) := goodIn_app (goodIn_of _ (by decide +kernel)) ggX5_lossOf_X5_hardOf
theorem dX5_lossOf_0 : decode cX5_lossOf 0 = .ok (.aload_n 0, 1) := by decide +kernel
theorem dX5_lossOf_1 : decode cX5_lossOf 1 = .ok (.iload_n 1, 1) := by decide +kernel
theorem dX5_lossOf_2 : decode cX5_lossOf 2 = .ok (.iconst 3, 1) := by decide +kernel
theorem dX5_lossOf_3 : decode cX5_lossOf 3 = .ok (.invokevirtual 50, 3) := by decide +kernel
theorem dX5_lossOf_6 : decode cX5_lossOf 6 = .ok (.iconst 1, 1) := by decide +kernel
theorem dX5_lossOf_7 : decode cX5_lossOf 7 = .ok (.if_icmp .ne 11, 3) := by decide +kernel
theorem dX5_lossOf_10 : decode cX5_lossOf 10 = .ok (.iload_n 2, 1) := by decide +kernel
theorem dX5_lossOf_11 : decode cX5_lossOf 11 = .ok (.iconst 1, 1) := by decide +kernel
theorem dX5_lossOf_12 : decode cX5_lossOf 12 = .ok (.iadd, 1) := by decide +kernel
theorem dX5_lossOf_13 : decode cX5_lossOf 13 = .ok (.iconst 2, 1) := by decide +kernel
theorem dX5_lossOf_14 : decode cX5_lossOf 14 = .ok (.idiv, 1) := by decide +kernel
theorem dX5_lossOf_15 : decode cX5_lossOf 15 = .ok (.goto 4, 3) := by decide +kernel
theorem dX5_lossOf_18 : decode cX5_lossOf 18 = .ok (.iload_n 2, 1) := by decide +kernel
theorem dX5_lossOf_19 : decode cX5_lossOf 19 = .ok (.istore_n 3, 1) := by decide +kernel
theorem dX5_lossOf_20 : decode cX5_lossOf 20 = .ok (.aload_n 0, 1) := by decide +kernel
theorem dX5_lossOf_21 : decode cX5_lossOf 21 = .ok (.iload_n 1, 1) := by decide +kernel
theorem dX5_lossOf_22 : decode cX5_lossOf 22 = .ok (.iconst 0, 1) := by decide +kernel
theorem dX5_lossOf_23 : decode cX5_lossOf 23 = .ok (.invokevirtual 50, 3) := by decide +kernel
theorem dX5_lossOf_26 : decode cX5_lossOf 26 = .ok (.aload_n 0, 1) := by decide +kernel
theorem dX5_lossOf_27 : decode cX5_lossOf 27 = .ok (.iload_n 1, 1) := by decide +kernel
theorem dX5_lossOf_28 : decode cX5_lossOf 28 = .ok (.iconst 1, 1) := by decide +kernel
theorem dX5_lossOf_29 : decode cX5_lossOf 29 = .ok (.invokevirtual 50, 3) := by decide +kernel
theorem dX5_lossOf_32 : decode cX5_lossOf 32 = .ok (.invokestatic 54, 3) := by decide +kernel
theorem dX5_lossOf_35 : decode cX5_lossOf 35 = .ok (.imul, 1) := by decide +kernel
theorem dX5_lossOf_36 : decode cX5_lossOf 36 = .ok (.iload_n 3, 1) := by decide +kernel
theorem dX5_lossOf_37 : decode cX5_lossOf 37 = .ok (.imul, 1) := by decide +kernel
theorem dX5_lossOf_38 : decode cX5_lossOf 38 = .ok (.iload_n 3, 1) := by decide +kernel
theorem dX5_lossOf_39 : decode cX5_lossOf 39 = .ok (.imul, 1) := by decide +kernel
theorem dX5_lossOf_40 : decode cX5_lossOf 40 = .ok (.bipush 100, 2) := by decide +kernel
theorem dX5_lossOf_42 : decode cX5_lossOf 42 = .ok (.idiv, 1) := by decide +kernel
theorem dX5_lossOf_43 : decode cX5_lossOf 43 = .ok (.aload_n 0, 1) := by decide +kernel
theorem dX5_lossOf_44 : decode cX5_lossOf 44 = .ok (.iload_n 1, 1) := by decide +kernel
theorem dX5_lossOf_45 : decode cX5_lossOf 45 = .ok (.iconst 2, 1) := by decide +kernel
theorem dX5_lossOf_46 : decode cX5_lossOf 46 = .ok (.invokevirtual 50, 3) := by decide +kernel
theorem dX5_lossOf_49 : decode cX5_lossOf 49 = .ok (.iadd, 1) := by decide +kernel
theorem dX5_lossOf_50 : decode cX5_lossOf 50 = .ok (.ireturn, 1) := by decide +kernel
theorem dX5_fail_0 : decode cX5_fail 0 = .ok (.aload_n 0, 1) := by decide +kernel
theorem dX5_fail_1 : decode cX5_fail 1 = .ok (.iload_n 1, 1) := by decide +kernel
theorem dX5_fail_2 : decode cX5_fail 2 = .ok (.putfield 58, 3) := by decide +kernel
theorem dX5_fail_5 : decode cX5_fail 5 = .ok (.aload_n 0, 1) := by decide +kernel
theorem dX5_fail_6 : decode cX5_fail 6 = .ok (.iload_n 2, 1) := by decide +kernel
theorem dX5_fail_7 : decode cX5_fail 7 = .ok (.putfield 61, 3) := by decide +kernel
theorem dX5_fail_10 : decode cX5_fail 10 = .ok (.return_, 1) := by decide +kernel
set_option maxRecDepth 20000 in
theorem ggX5_goOver_X5_ofSpan : GoodIn wsX5_goOver wsX5_ofSpan := goodIn_r _ [5, 6, 23, 24, 25, 26, 27, 28, 29, 30, 31, 32, 33, 34, 35, 36, 37, 38] (by decide +kernel) (by decide +kernel)
set_option maxRecDepth 20000 in
theorem gX5_goOver_X5_ofSpan : GoodIn wsX5_goOver (wsV RX5 50 RX5 yX5_ofSpan wsX5_ofSpan) := goodIn_app (goodIn_of _ (by decide +kernel)) ggX5_goOver_X5_ofSpan
set_option maxRecDepth 20000 in
theorem ggX5_goOver_X5_fail : GoodIn wsX5_goOver wsX5_fail := goodIn_r _ [10, 11, 12, 23, 24, 25, 26, 27, 28, 29, 30, 31, 32, 33, 34, 35, 36, 37, 38] (by decide +kernel) (by decide +kernel)
set_option maxRecDepth 20000 in
theorem gX5_goOver_X5_fail : GoodIn wsX5_goOver (wsV RX5 64 RX5 yX5_fail wsX5_fail) := goodIn_app (goodIn_of _ (by decide +kernel)) ggX5_goOver_X5_fail
set_option maxRecDepth 20000 in
theorem ggX5_goOver_X5_standsOf : GoodIn wsX5_goOver wsX5_standsOf := goodIn_r _ [15] (by decide +kernel) (by decide +kernel)
set_option maxRecDepth 20000 in
theorem gX5_goOver_X5_standsOf : GoodIn wsX5_goOver (va_wsS RX5 68 yX5_standsOf wsX5_standsOf) := goodIn_app (goodIn_of _ (by decide +kernel)) ggX5_goOver_X5_standsOf
set_option maxRecDepth 20000 in
theorem ggX5_goOver_X5_lossOf : GoodIn wsX5_goOver wsX5_lossOf := goodIn_r _ [19, 1, 2, 3, 4, 5, 6, 20, 21, 22, 23, 24, 25, 26, 27, 28, 29, 30, 31, 32, 33, 34, 35, 36, 37, 38] (by decide +kernel) (by decide +kernel)
set_option maxRecDepth 20000 in
theorem gX5_goOver_X5_lossOf : GoodIn wsX5_goOver (wsV RX5 71 RX5 yX5_lossOf wsX5_lossOf) := goodIn_app (goodIn_of _ (by decide +kernel)) ggX5_goOver_X5_lossOf
theorem dX5_goOver_0 : decode cX5_goOver 0 = .ok (.aload_n 0, 1) := by decide +kernel
theorem dX5_goOver_1 : decode cX5_goOver 1 = .ok (.iload_n 1, 1) := by decide +kernel
theorem dX5_goOver_2 : decode cX5_goOver 2 = .ok (.iconst 4, 1) := by decide +kernel
theorem dX5_goOver_3 : decode cX5_goOver 3 = .ok (.invokevirtual 50, 3) := by decide +kernel
theorem dX5_goOver_6 : decode cX5_goOver 6 = .ok (.iconst 1, 1) := by decide +kernel
theorem dX5_goOver_7 : decode cX5_goOver 7 = .ok (.if_icmp .ne 11, 3) := by decide +kernel
theorem dX5_goOver_10 : decode cX5_goOver 10 = .ok (.aload_n 0, 1) := by decide +kernel
theorem dX5_goOver_11 : decode cX5_goOver 11 = .ok (.iload_n 1, 1) := by decide +kernel
theorem dX5_goOver_12 : decode cX5_goOver 12 = .ok (.iconst 1, 1) := by decide +kernel
theorem dX5_goOver_13 : decode cX5_goOver 13 = .ok (.invokevirtual 64, 3) := by decide +kernel
theorem dX5_goOver_16 : decode cX5_goOver 16 = .ok (.iload_n 2, 1) := by decide +kernel
theorem dX5_goOver_17 : decode cX5_goOver 17 = .ok (.ireturn, 1) := by decide +kernel
theorem dX5_goOver_18 : decode cX5_goOver 18 = .ok (.iload_n 2, 1) := by decide +kernel
theorem dX5_goOver_19 : decode cX5_goOver 19 = .ok (.aload_n 0, 1) := by decide +kernel
theorem dX5_goOver_20 : decode cX5_goOver 20 = .ok (.iload_n 1, 1) := by decide +kernel
theorem dX5_goOver_21 : decode cX5_goOver 21 = .ok (.iconst 1, 1) := by decide +kernel
theorem dX5_goOver_22 : decode cX5_goOver 22 = .ok (.invokevirtual 50, 3) := by decide +kernel
theorem dX5_goOver_25 : decode cX5_goOver 25 = .ok (.invokestatic 68, 3) := by decide +kernel
theorem dX5_goOver_28 : decode cX5_goOver 28 = .ok (.if_icmp .le 11, 3) := by decide +kernel
theorem dX5_goOver_31 : decode cX5_goOver 31 = .ok (.aload_n 0, 1) := by decide +kernel
theorem dX5_goOver_32 : decode cX5_goOver 32 = .ok (.iload_n 1, 1) := by decide +kernel
theorem dX5_goOver_33 : decode cX5_goOver 33 = .ok (.iconst 4, 1) := by decide +kernel
theorem dX5_goOver_34 : decode cX5_goOver 34 = .ok (.invokevirtual 64, 3) := by decide +kernel
theorem dX5_goOver_37 : decode cX5_goOver 37 = .ok (.iload_n 2, 1) := by decide +kernel
theorem dX5_goOver_38 : decode cX5_goOver 38 = .ok (.ireturn, 1) := by decide +kernel
theorem dX5_goOver_39 : decode cX5_goOver 39 = .ok (.iload_n 2, 1) := by decide +kernel
theorem dX5_goOver_40 : decode cX5_goOver 40 = .ok (.aload_n 0, 1) := by decide +kernel
theorem dX5_goOver_41 : decode cX5_goOver 41 = .ok (.iload_n 1, 1) := by decide +kernel
theorem dX5_goOver_42 : decode cX5_goOver 42 = .ok (.iload_n 3, 1) := by decide +kernel
theorem dX5_goOver_43 : decode cX5_goOver 43 = .ok (.invokevirtual 71, 3) := by decide +kernel
theorem dX5_goOver_46 : decode cX5_goOver 46 = .ok (.isub, 1) := by decide +kernel
theorem dX5_goOver_47 : decode cX5_goOver 47 = .ok (.istore 4, 2) := by decide +kernel
theorem dX5_goOver_49 : decode cX5_goOver 49 = .ok (.iload 4, 2) := by decide +kernel
theorem dX5_goOver_51 : decode cX5_goOver 51 = .ok (.ifCond .ge 9, 3) := by decide +kernel
theorem dX5_goOver_54 : decode cX5_goOver 54 = .ok (.aload_n 0, 1) := by decide +kernel
theorem dX5_goOver_55 : decode cX5_goOver 55 = .ok (.iload_n 1, 1) := by decide +kernel
theorem dX5_goOver_56 : decode cX5_goOver 56 = .ok (.iconst 3, 1) := by decide +kernel
theorem dX5_goOver_57 : decode cX5_goOver 57 = .ok (.invokevirtual 64, 3) := by decide +kernel
theorem dX5_goOver_60 : decode cX5_goOver 60 = .ok (.iload 4, 2) := by decide +kernel
theorem dX5_goOver_62 : decode cX5_goOver 62 = .ok (.ireturn, 1) := by decide +kernel
set_option maxRecDepth 20000 in
theorem ggX5_goRun_X5_has : GoodIn wsX5_goRun wsX5_has := goodIn_r _ [11] (by decide +kernel) (by decide +kernel)
set_option maxRecDepth 20000 in
theorem gX5_goRun_X5_has : GoodIn wsX5_goRun (va_wsS RX5 78 yX5_has wsX5_has) := goodIn_app (goodIn_of _ (by decide +kernel)) ggX5_goRun_X5_has
set_option maxRecDepth 20000 in
theorem ggX5_goRun_X5_fail : GoodIn wsX5_goRun wsX5_fail := goodIn_r _ [15, 4, 5, 34, 35, 36, 37, 38, 39, 40, 41, 42, 43, 44, 45, 46, 47, 48, 49] (by decide +kernel) (by decide +kernel)
set_option maxRecDepth 20000 in
theorem gX5_goRun_X5_fail : GoodIn wsX5_goRun (wsV RX5 64 RX5 yX5_fail wsX5_fail) := goodIn_app (goodIn_of _ (by decide +kernel)) ggX5_goRun_X5_fail
set_option maxRecDepth 20000 in
theorem ggX5_goRun_X5_goOver : GoodIn wsX5_goRun wsX5_goOver := goodIn_r _ [19, 20, 21, 22, 10, 23, 7, 12, 13, 14, 15, 4, 5, 24, 25, 26, 27, 28, 29, 30, 31, 32, 33, 34, 35, 36, 37, 38, 39, 40, 41, 42, 43, 44, 45, 46, 47, 48, 49] (by decide +kernel) (by decide +kernel)
set_option maxRecDepth 20000 in
theorem gX5_goRun_X5_goOver : GoodIn wsX5_goRun (wsV RX5 82 RX5 yX5_goOver wsX5_goOver) := goodIn_app (goodIn_of _ (by decide +kernel)) ggX5_goRun_X5_goOver
theorem dX5_goRun_0 : decode cX5_goRun 0 = .ok (.iconst 0, 1) := by decide +kernel
theorem dX5_goRun_1 : decode cX5_goRun 1 = .ok (.istore_n 3, 1) := by decide +kernel
theorem dX5_goRun_2 : decode cX5_goRun 2 = .ok (.iload_n 3, 1) := by decide +kernel
theorem dX5_goRun_3 : decode cX5_goRun 3 = .ok (.bipush 10, 2) := by decide +kernel
theorem dX5_goRun_5 : decode cX5_goRun 5 = .ok (.if_icmp .gt 25, 3) := by decide +kernel
theorem dX5_goRun_8 : decode cX5_goRun 8 = .ok (.aload_n 0, 1) := by decide +kernel
theorem dX5_goRun_9 : decode cX5_goRun 9 = .ok (.getfield 25, 3) := by decide +kernel
theorem dX5_goRun_12 : decode cX5_goRun 12 = .ok (.iload_n 3, 1) := by decide +kernel
theorem dX5_goRun_13 : decode cX5_goRun 13 = .ok (.ldc 74, 2) := by decide +kernel
theorem dX5_goRun_15 : decode cX5_goRun 15 = .ok (.iastore, 1) := by decide +kernel
theorem dX5_goRun_16 : decode cX5_goRun 16 = .ok (.aload_n 0, 1) := by decide +kernel
theorem dX5_goRun_17 : decode cX5_goRun 17 = .ok (.getfield 28, 3) := by decide +kernel
theorem dX5_goRun_20 : decode cX5_goRun 20 = .ok (.iload_n 3, 1) := by decide +kernel
theorem dX5_goRun_21 : decode cX5_goRun 21 = .ok (.ldc 74, 2) := by decide +kernel
theorem dX5_goRun_23 : decode cX5_goRun 23 = .ok (.iastore, 1) := by decide +kernel
theorem dX5_goRun_24 : decode cX5_goRun 24 = .ok (.iinc 3 1, 3) := by decide +kernel
theorem dX5_goRun_27 : decode cX5_goRun 27 = .ok (.goto (-25), 3) := by decide +kernel
theorem dX5_goRun_30 : decode cX5_goRun 30 = .ok (.aload_n 0, 1) := by decide +kernel
theorem dX5_goRun_31 : decode cX5_goRun 31 = .ok (.ldc 74, 2) := by decide +kernel
theorem dX5_goRun_33 : decode cX5_goRun 33 = .ok (.putfield 58, 3) := by decide +kernel
theorem dX5_goRun_36 : decode cX5_goRun 36 = .ok (.aload_n 0, 1) := by decide +kernel
theorem dX5_goRun_37 : decode cX5_goRun 37 = .ok (.iconst 0, 1) := by decide +kernel
theorem dX5_goRun_38 : decode cX5_goRun 38 = .ok (.putfield 61, 3) := by decide +kernel
theorem dX5_goRun_41 : decode cX5_goRun 41 = .ok (.aload_n 0, 1) := by decide +kernel
theorem dX5_goRun_42 : decode cX5_goRun 42 = .ok (.ldc 74, 2) := by decide +kernel
theorem dX5_goRun_44 : decode cX5_goRun 44 = .ok (.putfield 75, 3) := by decide +kernel
theorem dX5_goRun_47 : decode cX5_goRun 47 = .ok (.aload_n 0, 1) := by decide +kernel
theorem dX5_goRun_48 : decode cX5_goRun 48 = .ok (.getfield 7, 3) := by decide +kernel
theorem dX5_goRun_51 : decode cX5_goRun 51 = .ok (.iconst 3, 1) := by decide +kernel
theorem dX5_goRun_52 : decode cX5_goRun 52 = .ok (.iaload, 1) := by decide +kernel
theorem dX5_goRun_53 : decode cX5_goRun 53 = .ok (.istore_n 3, 1) := by decide +kernel
theorem dX5_goRun_54 : decode cX5_goRun 54 = .ok (.iconst 0, 1) := by decide +kernel
theorem dX5_goRun_55 : decode cX5_goRun 55 = .ok (.istore 4, 2) := by decide +kernel
theorem dX5_goRun_57 : decode cX5_goRun 57 = .ok (.iload 4, 2) := by decide +kernel
theorem dX5_goRun_59 : decode cX5_goRun 59 = .ok (.aload_n 0, 1) := by decide +kernel
theorem dX5_goRun_60 : decode cX5_goRun 60 = .ok (.getfield 7, 3) := by decide +kernel
theorem dX5_goRun_63 : decode cX5_goRun 63 = .ok (.iconst 0, 1) := by decide +kernel
theorem dX5_goRun_64 : decode cX5_goRun 64 = .ok (.iaload, 1) := by decide +kernel
theorem dX5_goRun_65 : decode cX5_goRun 65 = .ok (.if_icmp .gt 136, 3) := by decide +kernel
theorem dX5_goRun_68 : decode cX5_goRun 68 = .ok (.aload_n 0, 1) := by decide +kernel
theorem dX5_goRun_69 : decode cX5_goRun 69 = .ok (.getfield 61, 3) := by decide +kernel
theorem dX5_goRun_72 : decode cX5_goRun 72 = .ok (.ifCond .ne 129, 3) := by decide +kernel
theorem dX5_goRun_75 : decode cX5_goRun 75 = .ok (.aload_n 0, 1) := by decide +kernel
theorem dX5_goRun_76 : decode cX5_goRun 76 = .ok (.getfield 25, 3) := by decide +kernel
theorem dX5_goRun_79 : decode cX5_goRun 79 = .ok (.iload 4, 2) := by decide +kernel
theorem dX5_goRun_81 : decode cX5_goRun 81 = .ok (.iload_n 3, 1) := by decide +kernel
theorem dX5_goRun_82 : decode cX5_goRun 82 = .ok (.iastore, 1) := by decide +kernel
theorem dX5_goRun_83 : decode cX5_goRun 83 = .ok (.iload_n 2, 1) := by decide +kernel
theorem dX5_goRun_84 : decode cX5_goRun 84 = .ok (.iload 4, 2) := by decide +kernel
theorem dX5_goRun_86 : decode cX5_goRun 86 = .ok (.invokestatic 78, 3) := by decide +kernel
theorem dX5_goRun_89 : decode cX5_goRun 89 = .ok (.ifCond .eq 23, 3) := by decide +kernel
theorem dX5_goRun_92 : decode cX5_goRun 92 = .ok (.iload_n 3, 1) := by decide +kernel
theorem dX5_goRun_93 : decode cX5_goRun 93 = .ok (.aload_n 0, 1) := by decide +kernel
theorem dX5_goRun_94 : decode cX5_goRun 94 = .ok (.getfield 7, 3) := by decide +kernel
theorem dX5_goRun_97 : decode cX5_goRun 97 = .ok (.bipush 6, 2) := by decide +kernel
theorem dX5_goRun_99 : decode cX5_goRun 99 = .ok (.iaload, 1) := by decide +kernel
theorem dX5_goRun_100 : decode cX5_goRun 100 = .ok (.if_icmp .ge 12, 3) := by decide +kernel
theorem dX5_goRun_103 : decode cX5_goRun 103 = .ok (.aload_n 0, 1) := by decide +kernel
theorem dX5_goRun_104 : decode cX5_goRun 104 = .ok (.iload 4, 2) := by decide +kernel
theorem dX5_goRun_106 : decode cX5_goRun 106 = .ok (.iconst 2, 1) := by decide +kernel
theorem dX5_goRun_107 : decode cX5_goRun 107 = .ok (.invokevirtual 64, 3) := by decide +kernel
theorem dX5_goRun_110 : decode cX5_goRun 110 = .ok (.iconst 0, 1) := by decide +kernel
theorem dX5_goRun_111 : decode cX5_goRun 111 = .ok (.ireturn, 1) := by decide +kernel
theorem dX5_goRun_112 : decode cX5_goRun 112 = .ok (.iload_n 2, 1) := by decide +kernel
theorem dX5_goRun_113 : decode cX5_goRun 113 = .ok (.iload 4, 2) := by decide +kernel
theorem dX5_goRun_115 : decode cX5_goRun 115 = .ok (.invokestatic 78, 3) := by decide +kernel
theorem dX5_goRun_118 : decode cX5_goRun 118 = .ok (.ifCond .eq 22, 3) := by decide +kernel
theorem dX5_goRun_121 : decode cX5_goRun 121 = .ok (.aload_n 0, 1) := by decide +kernel
theorem dX5_goRun_122 : decode cX5_goRun 122 = .ok (.getfield 7, 3) := by decide +kernel
theorem dX5_goRun_125 : decode cX5_goRun 125 = .ok (.iconst 5, 1) := by decide +kernel
theorem dX5_goRun_126 : decode cX5_goRun 126 = .ok (.iaload, 1) := by decide +kernel
theorem dX5_goRun_127 : decode cX5_goRun 127 = .ok (.iload_n 3, 1) := by decide +kernel
theorem dX5_goRun_128 : decode cX5_goRun 128 = .ok (.if_icmp .le 12, 3) := by decide +kernel
theorem dX5_goRun_131 : decode cX5_goRun 131 = .ok (.aload_n 0, 1) := by decide +kernel
theorem dX5_goRun_132 : decode cX5_goRun 132 = .ok (.getfield 7, 3) := by decide +kernel
theorem dX5_goRun_135 : decode cX5_goRun 135 = .ok (.iconst 5, 1) := by decide +kernel
theorem dX5_goRun_136 : decode cX5_goRun 136 = .ok (.iaload, 1) := by decide +kernel
theorem dX5_goRun_137 : decode cX5_goRun 137 = .ok (.goto 4, 3) := by decide +kernel
theorem dX5_goRun_140 : decode cX5_goRun 140 = .ok (.iload_n 3, 1) := by decide +kernel
theorem dX5_goRun_141 : decode cX5_goRun 141 = .ok (.istore_n 3, 1) := by decide +kernel
theorem dX5_goRun_142 : decode cX5_goRun 142 = .ok (.aload_n 0, 1) := by decide +kernel
theorem dX5_goRun_143 : decode cX5_goRun 143 = .ok (.getfield 28, 3) := by decide +kernel
theorem dX5_goRun_146 : decode cX5_goRun 146 = .ok (.iload 4, 2) := by decide +kernel
theorem dX5_goRun_148 : decode cX5_goRun 148 = .ok (.iload_n 3, 1) := by decide +kernel
theorem dX5_goRun_149 : decode cX5_goRun 149 = .ok (.iastore, 1) := by decide +kernel
theorem dX5_goRun_150 : decode cX5_goRun 150 = .ok (.iload 4, 2) := by decide +kernel
theorem dX5_goRun_152 : decode cX5_goRun 152 = .ok (.aload_n 0, 1) := by decide +kernel
theorem dX5_goRun_153 : decode cX5_goRun 153 = .ok (.getfield 7, 3) := by decide +kernel
theorem dX5_goRun_156 : decode cX5_goRun 156 = .ok (.iconst 0, 1) := by decide +kernel
theorem dX5_goRun_157 : decode cX5_goRun 157 = .ok (.iaload, 1) := by decide +kernel
theorem dX5_goRun_158 : decode cX5_goRun 158 = .ok (.if_icmp .ne 28, 3) := by decide +kernel
theorem dX5_goRun_161 : decode cX5_goRun 161 = .ok (.aload_n 0, 1) := by decide +kernel
theorem dX5_goRun_162 : decode cX5_goRun 162 = .ok (.iload_n 3, 1) := by decide +kernel
theorem dX5_goRun_163 : decode cX5_goRun 163 = .ok (.putfield 75, 3) := by decide +kernel
theorem dX5_goRun_166 : decode cX5_goRun 166 = .ok (.iload_n 3, 1) := by decide +kernel
theorem dX5_goRun_167 : decode cX5_goRun 167 = .ok (.aload_n 0, 1) := by decide +kernel
theorem dX5_goRun_168 : decode cX5_goRun 168 = .ok (.getfield 7, 3) := by decide +kernel
theorem dX5_goRun_171 : decode cX5_goRun 171 = .ok (.iconst 4, 1) := by decide +kernel
theorem dX5_goRun_172 : decode cX5_goRun 172 = .ok (.iaload, 1) := by decide +kernel
theorem dX5_goRun_173 : decode cX5_goRun 173 = .ok (.if_icmp .ge 22, 3) := by decide +kernel
theorem dX5_goRun_176 : decode cX5_goRun 176 = .ok (.aload_n 0, 1) := by decide +kernel
theorem dX5_goRun_177 : decode cX5_goRun 177 = .ok (.iload 4, 2) := by decide +kernel
theorem dX5_goRun_179 : decode cX5_goRun 179 = .ok (.iconst 5, 1) := by decide +kernel
theorem dX5_goRun_180 : decode cX5_goRun 180 = .ok (.invokevirtual 64, 3) := by decide +kernel
theorem dX5_goRun_183 : decode cX5_goRun 183 = .ok (.goto 12, 3) := by decide +kernel
theorem dX5_goRun_186 : decode cX5_goRun 186 = .ok (.aload_n 0, 1) := by decide +kernel
theorem dX5_goRun_187 : decode cX5_goRun 187 = .ok (.iload 4, 2) := by decide +kernel
theorem dX5_goRun_189 : decode cX5_goRun 189 = .ok (.iload_n 3, 1) := by decide +kernel
theorem dX5_goRun_190 : decode cX5_goRun 190 = .ok (.iload_n 1, 1) := by decide +kernel
theorem dX5_goRun_191 : decode cX5_goRun 191 = .ok (.invokevirtual 82, 3) := by decide +kernel
theorem dX5_goRun_194 : decode cX5_goRun 194 = .ok (.istore_n 3, 1) := by decide +kernel
theorem dX5_goRun_195 : decode cX5_goRun 195 = .ok (.iinc 4 1, 3) := by decide +kernel
theorem dX5_goRun_198 : decode cX5_goRun 198 = .ok (.goto (-141), 3) := by decide +kernel
theorem dX5_goRun_201 : decode cX5_goRun 201 = .ok (.aload_n 0, 1) := by decide +kernel
theorem dX5_goRun_202 : decode cX5_goRun 202 = .ok (.getfield 61, 3) := by decide +kernel
theorem dX5_goRun_205 : decode cX5_goRun 205 = .ok (.ifCond .ne 7, 3) := by decide +kernel
theorem dX5_goRun_208 : decode cX5_goRun 208 = .ok (.iconst 1, 1) := by decide +kernel
theorem dX5_goRun_209 : decode cX5_goRun 209 = .ok (.goto 4, 3) := by decide +kernel
theorem dX5_goRun_212 : decode cX5_goRun 212 = .ok (.iconst 0, 1) := by decide +kernel
theorem dX5_goRun_213 : decode cX5_goRun 213 = .ok (.ireturn, 1) := by decide +kernel
set_option maxRecDepth 20000 in
theorem ggX5_findFewest_X5_ones : GoodIn wsX5_findFewest wsX5_ones := goodIn_r _ [7] (by decide +kernel) (by decide +kernel)
set_option maxRecDepth 20000 in
theorem gX5_findFewest_X5_ones : GoodIn wsX5_findFewest (va_wsS RX5 89 yX5_ones wsX5_ones) := goodIn_app (goodIn_of _ (by decide +kernel)) ggX5_findFewest_X5_ones
set_option maxRecDepth 20000 in
theorem ggX5_findFewest_X5_goRun : GoodIn wsX5_findFewest wsX5_goRun := goodIn_r _ [11, 12, 1, 13, 14, 15, 16, 3, 17, 18, 6, 19, 20, 21, 22, 23, 24, 25, 26, 27, 28, 29, 30, 31, 32, 33, 34, 35, 36, 37, 38, 39, 40, 41, 42, 43, 44, 45, 46, 47, 48, 49, 50, 51, 52, 53, 54, 55, 56, 57] (by decide +kernel) (by decide +kernel)
set_option maxRecDepth 20000 in
theorem gX5_findFewest_X5_goRun : GoodIn wsX5_findFewest (wsV RX5 92 RX5 yX5_goRun wsX5_goRun) := goodIn_app (goodIn_of _ (by decide +kernel)) ggX5_findFewest_X5_goRun
theorem dX5_findFewest_0 : decode cX5_findFewest 0 = .ok (.aload_n 0, 1) := by decide +kernel
theorem dX5_findFewest_1 : decode cX5_findFewest 1 = .ok (.ldc 74, 2) := by decide +kernel
theorem dX5_findFewest_3 : decode cX5_findFewest 3 = .ok (.putfield 86, 3) := by decide +kernel
theorem dX5_findFewest_6 : decode cX5_findFewest 6 = .ok (.iconst 0, 1) := by decide +kernel
theorem dX5_findFewest_7 : decode cX5_findFewest 7 = .ok (.istore_n 2, 1) := by decide +kernel
theorem dX5_findFewest_8 : decode cX5_findFewest 8 = .ok (.iload_n 2, 1) := by decide +kernel
theorem dX5_findFewest_9 : decode cX5_findFewest 9 = .ok (.iconst 1, 1) := by decide +kernel
theorem dX5_findFewest_10 : decode cX5_findFewest 10 = .ok (.aload_n 0, 1) := by decide +kernel
theorem dX5_findFewest_11 : decode cX5_findFewest 11 = .ok (.getfield 7, 3) := by decide +kernel
theorem dX5_findFewest_14 : decode cX5_findFewest 14 = .ok (.iconst 0, 1) := by decide +kernel
theorem dX5_findFewest_15 : decode cX5_findFewest 15 = .ok (.iaload, 1) := by decide +kernel
theorem dX5_findFewest_16 : decode cX5_findFewest 16 = .ok (.ishl, 1) := by decide +kernel
theorem dX5_findFewest_17 : decode cX5_findFewest 17 = .ok (.if_icmp .ge 63, 3) := by decide +kernel
theorem dX5_findFewest_20 : decode cX5_findFewest 20 = .ok (.aload_n 0, 1) := by decide +kernel
theorem dX5_findFewest_21 : decode cX5_findFewest 21 = .ok (.getfield 86, 3) := by decide +kernel
theorem dX5_findFewest_24 : decode cX5_findFewest 24 = .ok (.ldc 74, 2) := by decide +kernel
theorem dX5_findFewest_26 : decode cX5_findFewest 26 = .ok (.if_icmp .eq 17, 3) := by decide +kernel
theorem dX5_findFewest_29 : decode cX5_findFewest 29 = .ok (.iload_n 2, 1) := by decide +kernel
theorem dX5_findFewest_30 : decode cX5_findFewest 30 = .ok (.invokestatic 89, 3) := by decide +kernel
theorem dX5_findFewest_33 : decode cX5_findFewest 33 = .ok (.aload_n 0, 1) := by decide +kernel
theorem dX5_findFewest_34 : decode cX5_findFewest 34 = .ok (.getfield 86, 3) := by decide +kernel
theorem dX5_findFewest_37 : decode cX5_findFewest 37 = .ok (.invokestatic 89, 3) := by decide +kernel
theorem dX5_findFewest_40 : decode cX5_findFewest 40 = .ok (.if_icmp .ge 7, 3) := by decide +kernel
theorem dX5_findFewest_43 : decode cX5_findFewest 43 = .ok (.iconst 1, 1) := by decide +kernel
theorem dX5_findFewest_44 : decode cX5_findFewest 44 = .ok (.goto 4, 3) := by decide +kernel
theorem dX5_findFewest_47 : decode cX5_findFewest 47 = .ok (.iconst 0, 1) := by decide +kernel
theorem dX5_findFewest_48 : decode cX5_findFewest 48 = .ok (.istore_n 3, 1) := by decide +kernel
theorem dX5_findFewest_49 : decode cX5_findFewest 49 = .ok (.aload_n 0, 1) := by decide +kernel
theorem dX5_findFewest_50 : decode cX5_findFewest 50 = .ok (.iload_n 3, 1) := by decide +kernel
theorem dX5_findFewest_51 : decode cX5_findFewest 51 = .ok (.ifCond .eq 16, 3) := by decide +kernel
theorem dX5_findFewest_54 : decode cX5_findFewest 54 = .ok (.aload_n 0, 1) := by decide +kernel
theorem dX5_findFewest_55 : decode cX5_findFewest 55 = .ok (.iload_n 1, 1) := by decide +kernel
theorem dX5_findFewest_56 : decode cX5_findFewest 56 = .ok (.iload_n 2, 1) := by decide +kernel
theorem dX5_findFewest_57 : decode cX5_findFewest 57 = .ok (.invokevirtual 92, 3) := by decide +kernel
theorem dX5_findFewest_60 : decode cX5_findFewest 60 = .ok (.ifCond .eq 7, 3) := by decide +kernel
theorem dX5_findFewest_63 : decode cX5_findFewest 63 = .ok (.iload_n 2, 1) := by decide +kernel
theorem dX5_findFewest_64 : decode cX5_findFewest 64 = .ok (.goto 7, 3) := by decide +kernel
theorem dX5_findFewest_67 : decode cX5_findFewest 67 = .ok (.aload_n 0, 1) := by decide +kernel
theorem dX5_findFewest_68 : decode cX5_findFewest 68 = .ok (.getfield 86, 3) := by decide +kernel
theorem dX5_findFewest_71 : decode cX5_findFewest 71 = .ok (.putfield 86, 3) := by decide +kernel
theorem dX5_findFewest_74 : decode cX5_findFewest 74 = .ok (.iinc 2 1, 3) := by decide +kernel
theorem dX5_findFewest_77 : decode cX5_findFewest 77 = .ok (.goto (-69), 3) := by decide +kernel
theorem dX5_findFewest_80 : decode cX5_findFewest 80 = .ok (.aload_n 0, 1) := by decide +kernel
theorem dX5_findFewest_81 : decode cX5_findFewest 81 = .ok (.getfield 86, 3) := by decide +kernel
theorem dX5_findFewest_84 : decode cX5_findFewest 84 = .ok (.ldc 74, 2) := by decide +kernel
theorem dX5_findFewest_86 : decode cX5_findFewest 86 = .ok (.if_icmp .eq 7, 3) := by decide +kernel
theorem dX5_findFewest_89 : decode cX5_findFewest 89 = .ok (.iconst 1, 1) := by decide +kernel
theorem dX5_findFewest_90 : decode cX5_findFewest 90 = .ok (.goto 4, 3) := by decide +kernel
theorem dX5_findFewest_93 : decode cX5_findFewest 93 = .ok (.iconst 0, 1) := by decide +kernel
theorem dX5_findFewest_94 : decode cX5_findFewest 94 = .ok (.ireturn, 1) := by decide +kernel
set_option maxRecDepth 20000 in
theorem ggX5_fewestOf_X5_findFewest : GoodIn wsX5_fewestOf wsX5_findFewest := goodIn_r _ [7, 1, 2, 8, 9, 10, 6, 11, 12, 13, 14, 15, 16, 17, 18, 19, 20, 21, 22, 23, 24, 25, 26, 27, 28, 29, 30, 31, 32, 33, 34, 35, 36, 37, 38, 39, 40, 41, 42, 43, 44, 45, 46, 47, 48, 49, 50, 51, 52, 53, 54, 55, 56, 57, 58, 59, 60, 61] (by decide +kernel) (by decide +kernel)
set_option maxRecDepth 20000 in
theorem gX5_fewestOf_X5_findFewest : GoodIn wsX5_fewestOf (wsV RX5 95 RX5 yX5_findFewest wsX5_findFewest) := goodIn_app (goodIn_of _ (by decide +kernel)) ggX5_fewestOf_X5_findFewest
set_option maxRecDepth 20000 in
theorem ggX5_fewestOf_X5_ones : GoodIn wsX5_fewestOf wsX5_ones := goodIn_r _ [11] (by decide +kernel) (by decide +kernel)
set_option maxRecDepth 20000 in
theorem gX5_fewestOf_X5_ones : GoodIn wsX5_fewestOf (va_wsS RX5 89 yX5_ones wsX5_ones) := goodIn_app (goodIn_of _ (by decide +kernel)) ggX5_fewestOf_X5_ones
theorem dX5_fewestOf_0 : decode cX5_fewestOf 0 = .ok (.aload_n 0, 1) := by decide +kernel
theorem dX5_fewestOf_1 : decode cX5_fewestOf 1 = .ok (.iload_n 1, 1) := by decide +kernel
theorem dX5_fewestOf_2 : decode cX5_fewestOf 2 = .ok (.invokevirtual 95, 3) := by decide +kernel
theorem dX5_fewestOf_5 : decode cX5_fewestOf 5 = .ok (.istore_n 3, 1) := by decide +kernel
theorem dX5_fewestOf_6 : decode cX5_fewestOf 6 = .ok (.iload_n 3, 1) := by decide +kernel
theorem dX5_fewestOf_7 : decode cX5_fewestOf 7 = .ok (.ifCond .ne 8, 3) := by decide +kernel
theorem dX5_fewestOf_10 : decode cX5_fewestOf 10 = .ok (.ldc 74, 2) := by decide +kernel
theorem dX5_fewestOf_12 : decode cX5_fewestOf 12 = .ok (.goto 21, 3) := by decide +kernel
theorem dX5_fewestOf_15 : decode cX5_fewestOf 15 = .ok (.iload_n 2, 1) := by decide +kernel
theorem dX5_fewestOf_16 : decode cX5_fewestOf 16 = .ok (.ifCond .ne 13, 3) := by decide +kernel
theorem dX5_fewestOf_19 : decode cX5_fewestOf 19 = .ok (.aload_n 0, 1) := by decide +kernel
theorem dX5_fewestOf_20 : decode cX5_fewestOf 20 = .ok (.getfield 86, 3) := by decide +kernel
theorem dX5_fewestOf_23 : decode cX5_fewestOf 23 = .ok (.invokestatic 89, 3) := by decide +kernel
theorem dX5_fewestOf_26 : decode cX5_fewestOf 26 = .ok (.goto 7, 3) := by decide +kernel
theorem dX5_fewestOf_29 : decode cX5_fewestOf 29 = .ok (.aload_n 0, 1) := by decide +kernel
theorem dX5_fewestOf_30 : decode cX5_fewestOf 30 = .ok (.getfield 86, 3) := by decide +kernel
theorem dX5_fewestOf_33 : decode cX5_fewestOf 33 = .ok (.ireturn, 1) := by decide +kernel
set_option maxRecDepth 20000 in
theorem ggX5_mostNow_X5_goRun : GoodIn wsX5_mostNow wsX5_goRun := goodIn_r _ [7, 8, 1, 9, 10, 11, 12, 2, 13, 14, 6, 15, 16, 17, 18, 19, 20, 21, 22, 23, 24, 25, 26, 27, 28, 29, 30, 31, 32, 33, 34, 35, 36, 37, 38, 39, 40, 41, 42, 43, 44, 45, 46, 47, 48, 49, 50, 51, 52, 53] (by decide +kernel) (by decide +kernel)
set_option maxRecDepth 20000 in
theorem gX5_mostNow_X5_goRun : GoodIn wsX5_mostNow (wsV RX5 92 RX5 yX5_goRun wsX5_goRun) := goodIn_app (goodIn_of _ (by decide +kernel)) ggX5_mostNow_X5_goRun
theorem dX5_mostNow_0 : decode cX5_mostNow 0 = .ok (.ldc 74, 2) := by decide +kernel
theorem dX5_mostNow_2 : decode cX5_mostNow 2 = .ok (.istore_n 1, 1) := by decide +kernel
theorem dX5_mostNow_3 : decode cX5_mostNow 3 = .ok (.iconst 1, 1) := by decide +kernel
theorem dX5_mostNow_4 : decode cX5_mostNow 4 = .ok (.istore_n 2, 1) := by decide +kernel
theorem dX5_mostNow_5 : decode cX5_mostNow 5 = .ok (.iload_n 2, 1) := by decide +kernel
theorem dX5_mostNow_6 : decode cX5_mostNow 6 = .ok (.bipush 30, 2) := by decide +kernel
theorem dX5_mostNow_8 : decode cX5_mostNow 8 = .ok (.if_icmp .gt 29, 3) := by decide +kernel
theorem dX5_mostNow_11 : decode cX5_mostNow 11 = .ok (.aload_n 0, 1) := by decide +kernel
theorem dX5_mostNow_12 : decode cX5_mostNow 12 = .ok (.iload_n 2, 1) := by decide +kernel
theorem dX5_mostNow_13 : decode cX5_mostNow 13 = .ok (.aload_n 0, 1) := by decide +kernel
theorem dX5_mostNow_14 : decode cX5_mostNow 14 = .ok (.getfield 7, 3) := by decide +kernel
theorem dX5_mostNow_17 : decode cX5_mostNow 17 = .ok (.iconst 1, 1) := by decide +kernel
theorem dX5_mostNow_18 : decode cX5_mostNow 18 = .ok (.iaload, 1) := by decide +kernel
theorem dX5_mostNow_19 : decode cX5_mostNow 19 = .ok (.invokevirtual 92, 3) := by decide +kernel
theorem dX5_mostNow_22 : decode cX5_mostNow 22 = .ok (.ifCond .eq 7, 3) := by decide +kernel
theorem dX5_mostNow_25 : decode cX5_mostNow 25 = .ok (.iload_n 2, 1) := by decide +kernel
theorem dX5_mostNow_26 : decode cX5_mostNow 26 = .ok (.goto 4, 3) := by decide +kernel
theorem dX5_mostNow_29 : decode cX5_mostNow 29 = .ok (.iload_n 1, 1) := by decide +kernel
theorem dX5_mostNow_30 : decode cX5_mostNow 30 = .ok (.istore_n 1, 1) := by decide +kernel
theorem dX5_mostNow_31 : decode cX5_mostNow 31 = .ok (.iinc 2 1, 3) := by decide +kernel
theorem dX5_mostNow_34 : decode cX5_mostNow 34 = .ok (.goto (-29), 3) := by decide +kernel
theorem dX5_mostNow_37 : decode cX5_mostNow 37 = .ok (.iload_n 1, 1) := by decide +kernel
theorem dX5_mostNow_38 : decode cX5_mostNow 38 = .ok (.ireturn, 1) := by decide +kernel
theorem dX5_leastOf_0 : decode cX5_leastOf 0 = .ok (.iload_n 0, 1) := by decide +kernel
theorem dX5_leastOf_1 : decode cX5_leastOf 1 = .ok (.ifCond .ne 7, 3) := by decide +kernel
theorem dX5_leastOf_4 : decode cX5_leastOf 4 = .ok (.iconst 1, 1) := by decide +kernel
theorem dX5_leastOf_5 : decode cX5_leastOf 5 = .ok (.goto 14, 3) := by decide +kernel
theorem dX5_leastOf_8 : decode cX5_leastOf 8 = .ok (.iload_n 0, 1) := by decide +kernel
theorem dX5_leastOf_9 : decode cX5_leastOf 9 = .ok (.iconst 3, 1) := by decide +kernel
theorem dX5_leastOf_10 : decode cX5_leastOf 10 = .ok (.if_icmp .ne 8, 3) := by decide +kernel
theorem dX5_leastOf_13 : decode cX5_leastOf 13 = .ok (.bipush 20, 2) := by decide +kernel
theorem dX5_leastOf_15 : decode cX5_leastOf 15 = .ok (.goto 4, 3) := by decide +kernel
theorem dX5_leastOf_18 : decode cX5_leastOf 18 = .ok (.iconst 0, 1) := by decide +kernel
theorem dX5_leastOf_19 : decode cX5_leastOf 19 = .ok (.ireturn, 1) := by decide +kernel
theorem dX5_mostOf_0 : decode cX5_mostOf 0 = .ok (.iload_n 0, 1) := by decide +kernel
theorem dX5_mostOf_1 : decode cX5_mostOf 1 = .ok (.ifCond .ne 8, 3) := by decide +kernel
theorem dX5_mostOf_4 : decode cX5_mostOf 4 = .ok (.bipush 30, 2) := by decide +kernel
theorem dX5_mostOf_6 : decode cX5_mostOf 6 = .ok (.goto 36, 3) := by decide +kernel
theorem dX5_mostOf_9 : decode cX5_mostOf 9 = .ok (.iload_n 0, 1) := by decide +kernel
theorem dX5_mostOf_10 : decode cX5_mostOf 10 = .ok (.iconst 3, 1) := by decide +kernel
theorem dX5_mostOf_11 : decode cX5_mostOf 11 = .ok (.if_icmp .ne 9, 3) := by decide +kernel
theorem dX5_mostOf_14 : decode cX5_mostOf 14 = .ok (.sipush 180, 3) := by decide +kernel
theorem dX5_mostOf_17 : decode cX5_mostOf 17 = .ok (.goto 25, 3) := by decide +kernel
theorem dX5_mostOf_20 : decode cX5_mostOf 20 = .ok (.iload_n 0, 1) := by decide +kernel
theorem dX5_mostOf_21 : decode cX5_mostOf 21 = .ok (.iconst 4, 1) := by decide +kernel
theorem dX5_mostOf_22 : decode cX5_mostOf 22 = .ok (.if_icmp .ne 8, 3) := by decide +kernel
theorem dX5_mostOf_25 : decode cX5_mostOf 25 = .ok (.bipush 20, 2) := by decide +kernel
theorem dX5_mostOf_27 : decode cX5_mostOf 27 = .ok (.goto 15, 3) := by decide +kernel
theorem dX5_mostOf_30 : decode cX5_mostOf 30 = .ok (.iload_n 0, 1) := by decide +kernel
theorem dX5_mostOf_31 : decode cX5_mostOf 31 = .ok (.iconst 5, 1) := by decide +kernel
theorem dX5_mostOf_32 : decode cX5_mostOf 32 = .ok (.if_icmp .ne 8, 3) := by decide +kernel
theorem dX5_mostOf_35 : decode cX5_mostOf 35 = .ok (.bipush 99, 2) := by decide +kernel
theorem dX5_mostOf_37 : decode cX5_mostOf 37 = .ok (.goto 5, 3) := by decide +kernel
theorem dX5_mostOf_40 : decode cX5_mostOf 40 = .ok (.bipush 100, 2) := by decide +kernel
theorem dX5_mostOf_42 : decode cX5_mostOf 42 = .ok (.ireturn, 1) := by decide +kernel
theorem dX5_say_0 : decode cX5_say 0 = .ok (.aload_n 0, 1) := by decide +kernel
theorem dX5_say_1 : decode cX5_say 1 = .ok (.getfield 31, 3) := by decide +kernel
theorem dX5_say_4 : decode cX5_say 4 = .ok (.iconst 0, 1) := by decide +kernel
theorem dX5_say_5 : decode cX5_say 5 = .ok (.iload_n 1, 1) := by decide +kernel
theorem dX5_say_6 : decode cX5_say 6 = .ok (.iastore, 1) := by decide +kernel
theorem dX5_say_7 : decode cX5_say 7 = .ok (.aload_n 0, 1) := by decide +kernel
theorem dX5_say_8 : decode cX5_say 8 = .ok (.getfield 31, 3) := by decide +kernel
theorem dX5_say_11 : decode cX5_say 11 = .ok (.iconst 1, 1) := by decide +kernel
theorem dX5_say_12 : decode cX5_say 12 = .ok (.iload_n 2, 1) := by decide +kernel
theorem dX5_say_13 : decode cX5_say 13 = .ok (.iastore, 1) := by decide +kernel
theorem dX5_say_14 : decode cX5_say 14 = .ok (.aload_n 0, 1) := by decide +kernel
theorem dX5_say_15 : decode cX5_say 15 = .ok (.getfield 31, 3) := by decide +kernel
theorem dX5_say_18 : decode cX5_say 18 = .ok (.iconst 2, 1) := by decide +kernel
theorem dX5_say_19 : decode cX5_say 19 = .ok (.iload_n 3, 1) := by decide +kernel
theorem dX5_say_20 : decode cX5_say 20 = .ok (.iastore, 1) := by decide +kernel
theorem dX5_say_21 : decode cX5_say 21 = .ok (.aload_n 0, 1) := by decide +kernel
theorem dX5_say_22 : decode cX5_say 22 = .ok (.getfield 31, 3) := by decide +kernel
theorem dX5_say_25 : decode cX5_say 25 = .ok (.iconst 3, 1) := by decide +kernel
theorem dX5_say_26 : decode cX5_say 26 = .ok (.iload 4, 2) := by decide +kernel
theorem dX5_say_28 : decode cX5_say 28 = .ok (.iastore, 1) := by decide +kernel
theorem dX5_say_29 : decode cX5_say 29 = .ok (.return_, 1) := by decide +kernel
set_option maxRecDepth 20000 in
theorem ggX5_barSpan_X5_in : GoodIn wsX5_barSpan wsX5_in := goodIn_r _ [8] (by decide +kernel) (by decide +kernel)
set_option maxRecDepth 20000 in
theorem gX5_barSpan_X5_in : GoodIn wsX5_barSpan (va_wsS RX5 46 yX5_in wsX5_in) := goodIn_app (goodIn_of _ (by decide +kernel)) ggX5_barSpan_X5_in
theorem dX5_barSpan_0 : decode cX5_barSpan 0 = .ok (.aload_n 0, 1) := by decide +kernel
theorem dX5_barSpan_1 : decode cX5_barSpan 1 = .ok (.getfield 31, 3) := by decide +kernel
theorem dX5_barSpan_4 : decode cX5_barSpan 4 = .ok (.iconst 0, 1) := by decide +kernel
theorem dX5_barSpan_5 : decode cX5_barSpan 5 = .ok (.iaload, 1) := by decide +kernel
theorem dX5_barSpan_6 : decode cX5_barSpan 6 = .ok (.iconst 1, 1) := by decide +kernel
theorem dX5_barSpan_7 : decode cX5_barSpan 7 = .ok (.bipush 30, 2) := by decide +kernel
theorem dX5_barSpan_9 : decode cX5_barSpan 9 = .ok (.invokestatic 46, 3) := by decide +kernel
theorem dX5_barSpan_12 : decode cX5_barSpan 12 = .ok (.ifCond .eq 51, 3) := by decide +kernel
theorem dX5_barSpan_15 : decode cX5_barSpan 15 = .ok (.aload_n 0, 1) := by decide +kernel
theorem dX5_barSpan_16 : decode cX5_barSpan 16 = .ok (.getfield 31, 3) := by decide +kernel
theorem dX5_barSpan_19 : decode cX5_barSpan 19 = .ok (.iconst 1, 1) := by decide +kernel
theorem dX5_barSpan_20 : decode cX5_barSpan 20 = .ok (.iaload, 1) := by decide +kernel
theorem dX5_barSpan_21 : decode cX5_barSpan 21 = .ok (.iconst 0, 1) := by decide +kernel
theorem dX5_barSpan_22 : decode cX5_barSpan 22 = .ok (.iconst 3, 1) := by decide +kernel
theorem dX5_barSpan_23 : decode cX5_barSpan 23 = .ok (.invokestatic 46, 3) := by decide +kernel
theorem dX5_barSpan_26 : decode cX5_barSpan 26 = .ok (.ifCond .eq 37, 3) := by decide +kernel
theorem dX5_barSpan_29 : decode cX5_barSpan 29 = .ok (.aload_n 0, 1) := by decide +kernel
theorem dX5_barSpan_30 : decode cX5_barSpan 30 = .ok (.getfield 31, 3) := by decide +kernel
theorem dX5_barSpan_33 : decode cX5_barSpan 33 = .ok (.iconst 2, 1) := by decide +kernel
theorem dX5_barSpan_34 : decode cX5_barSpan 34 = .ok (.iaload, 1) := by decide +kernel
theorem dX5_barSpan_35 : decode cX5_barSpan 35 = .ok (.bipush (-50), 2) := by decide +kernel
theorem dX5_barSpan_37 : decode cX5_barSpan 37 = .ok (.bipush 50, 2) := by decide +kernel
theorem dX5_barSpan_39 : decode cX5_barSpan 39 = .ok (.invokestatic 46, 3) := by decide +kernel
theorem dX5_barSpan_42 : decode cX5_barSpan 42 = .ok (.ifCond .eq 21, 3) := by decide +kernel
theorem dX5_barSpan_45 : decode cX5_barSpan 45 = .ok (.aload_n 0, 1) := by decide +kernel
theorem dX5_barSpan_46 : decode cX5_barSpan 46 = .ok (.getfield 31, 3) := by decide +kernel
theorem dX5_barSpan_49 : decode cX5_barSpan 49 = .ok (.iconst 3, 1) := by decide +kernel
theorem dX5_barSpan_50 : decode cX5_barSpan 50 = .ok (.iaload, 1) := by decide +kernel
theorem dX5_barSpan_51 : decode cX5_barSpan 51 = .ok (.iconst 0, 1) := by decide +kernel
theorem dX5_barSpan_52 : decode cX5_barSpan 52 = .ok (.iconst 1, 1) := by decide +kernel
theorem dX5_barSpan_53 : decode cX5_barSpan 53 = .ok (.invokestatic 46, 3) := by decide +kernel
theorem dX5_barSpan_56 : decode cX5_barSpan 56 = .ok (.ifCond .eq 7, 3) := by decide +kernel
theorem dX5_barSpan_59 : decode cX5_barSpan 59 = .ok (.iconst 1, 1) := by decide +kernel
theorem dX5_barSpan_60 : decode cX5_barSpan 60 = .ok (.goto 4, 3) := by decide +kernel
theorem dX5_barSpan_63 : decode cX5_barSpan 63 = .ok (.iconst 0, 1) := by decide +kernel
theorem dX5_barSpan_64 : decode cX5_barSpan 64 = .ok (.istore_n 1, 1) := by decide +kernel
theorem dX5_barSpan_65 : decode cX5_barSpan 65 = .ok (.iload_n 1, 1) := by decide +kernel
theorem dX5_barSpan_66 : decode cX5_barSpan 66 = .ok (.ifCond .ne 8, 3) := by decide +kernel
theorem dX5_barSpan_69 : decode cX5_barSpan 69 = .ok (.ldc 37, 2) := by decide +kernel
theorem dX5_barSpan_71 : decode cX5_barSpan 71 = .ok (.goto 20, 3) := by decide +kernel
theorem dX5_barSpan_74 : decode cX5_barSpan 74 = .ok (.aload_n 0, 1) := by decide +kernel
theorem dX5_barSpan_75 : decode cX5_barSpan 75 = .ok (.getfield 7, 3) := by decide +kernel
theorem dX5_barSpan_78 : decode cX5_barSpan 78 = .ok (.iconst 0, 1) := by decide +kernel
theorem dX5_barSpan_79 : decode cX5_barSpan 79 = .ok (.iaload, 1) := by decide +kernel
theorem dX5_barSpan_80 : decode cX5_barSpan 80 = .ok (.bipush 10, 2) := by decide +kernel
theorem dX5_barSpan_82 : decode cX5_barSpan 82 = .ok (.if_icmp .ne 8, 3) := by decide +kernel
theorem dX5_barSpan_85 : decode cX5_barSpan 85 = .ok (.ldc 99, 2) := by decide +kernel
theorem dX5_barSpan_87 : decode cX5_barSpan 87 = .ok (.goto 4, 3) := by decide +kernel
theorem dX5_barSpan_90 : decode cX5_barSpan 90 = .ok (.iconst 0, 1) := by decide +kernel
theorem dX5_barSpan_91 : decode cX5_barSpan 91 = .ok (.ireturn, 1) := by decide +kernel
set_option maxRecDepth 20000 in
theorem ggX5_barMend_X5_isSpan : GoodIn wsX5_barMend wsX5_isSpan := goodIn_r _ [9, 3, 10, 11, 8, 12, 21, 22, 23, 24, 25, 26, 27, 28, 29, 30, 31, 32, 33, 34, 35, 36] (by decide +kernel) (by decide +kernel)
set_option maxRecDepth 20000 in
theorem gX5_barMend_X5_isSpan : GoodIn wsX5_barMend (wsV RX5 100 RX5 yX5_isSpan wsX5_isSpan) := goodIn_app (goodIn_of _ (by decide +kernel)) ggX5_barMend_X5_isSpan
set_option maxRecDepth 20000 in
theorem ggX5_barMend_X5_ofSpan : GoodIn wsX5_barMend wsX5_ofSpan := goodIn_r _ [16, 3, 21, 22, 23, 24, 25, 26, 27, 28, 29, 30, 31, 32, 33, 34, 35, 36] (by decide +kernel) (by decide +kernel)
set_option maxRecDepth 20000 in
theorem gX5_barMend_X5_ofSpan : GoodIn wsX5_barMend (wsV RX5 50 RX5 yX5_ofSpan wsX5_ofSpan) := goodIn_app (goodIn_of _ (by decide +kernel)) ggX5_barMend_X5_ofSpan
set_option maxRecDepth 20000 in
theorem ggX5_barMend_X5_lengthsOf : GoodIn wsX5_barMend wsX5_lengthsOf := goodIn_r _ [20, 13, 14, 15, 8, 16, 3, 21, 22, 23, 24, 25, 26, 27, 28, 29, 30, 31, 32, 33, 34, 35, 36] (by decide +kernel) (by decide +kernel)
set_option maxRecDepth 20000 in
theorem gX5_barMend_X5_lengthsOf : GoodIn wsX5_barMend (wsV RX5 103 RX5 yX5_lengthsOf wsX5_lengthsOf) := goodIn_app (goodIn_of _ (by decide +kernel)) ggX5_barMend_X5_lengthsOf
theorem dX5_barMend_0 : decode cX5_barMend 0 = .ok (.aload_n 0, 1) := by decide +kernel
theorem dX5_barMend_1 : decode cX5_barMend 1 = .ok (.getfield 31, 3) := by decide +kernel
theorem dX5_barMend_4 : decode cX5_barMend 4 = .ok (.iconst 0, 1) := by decide +kernel
theorem dX5_barMend_5 : decode cX5_barMend 5 = .ok (.iaload, 1) := by decide +kernel
theorem dX5_barMend_6 : decode cX5_barMend 6 = .ok (.istore_n 1, 1) := by decide +kernel
theorem dX5_barMend_7 : decode cX5_barMend 7 = .ok (.aload_n 0, 1) := by decide +kernel
theorem dX5_barMend_8 : decode cX5_barMend 8 = .ok (.iload_n 1, 1) := by decide +kernel
theorem dX5_barMend_9 : decode cX5_barMend 9 = .ok (.invokevirtual 100, 3) := by decide +kernel
theorem dX5_barMend_12 : decode cX5_barMend 12 = .ok (.ifCond .ne 6, 3) := by decide +kernel
theorem dX5_barMend_15 : decode cX5_barMend 15 = .ok (.ldc 37, 2) := by decide +kernel
theorem dX5_barMend_17 : decode cX5_barMend 17 = .ok (.ireturn, 1) := by decide +kernel
theorem dX5_barMend_18 : decode cX5_barMend 18 = .ok (.aload_n 0, 1) := by decide +kernel
theorem dX5_barMend_19 : decode cX5_barMend 19 = .ok (.iload_n 1, 1) := by decide +kernel
theorem dX5_barMend_20 : decode cX5_barMend 20 = .ok (.iconst 4, 1) := by decide +kernel
theorem dX5_barMend_21 : decode cX5_barMend 21 = .ok (.invokevirtual 50, 3) := by decide +kernel
theorem dX5_barMend_24 : decode cX5_barMend 24 = .ok (.ifCond .eq 18, 3) := by decide +kernel
theorem dX5_barMend_27 : decode cX5_barMend 27 = .ok (.aload_n 0, 1) := by decide +kernel
theorem dX5_barMend_28 : decode cX5_barMend 28 = .ok (.getfield 7, 3) := by decide +kernel
theorem dX5_barMend_31 : decode cX5_barMend 31 = .ok (.bipush 7, 2) := by decide +kernel
theorem dX5_barMend_33 : decode cX5_barMend 33 = .ok (.iaload, 1) := by decide +kernel
theorem dX5_barMend_34 : decode cX5_barMend 34 = .ok (.aload_n 0, 1) := by decide +kernel
theorem dX5_barMend_35 : decode cX5_barMend 35 = .ok (.iload_n 1, 1) := by decide +kernel
theorem dX5_barMend_36 : decode cX5_barMend 36 = .ok (.invokevirtual 103, 3) := by decide +kernel
theorem dX5_barMend_39 : decode cX5_barMend 39 = .ok (.if_icmp .ge 8, 3) := by decide +kernel
theorem dX5_barMend_42 : decode cX5_barMend 42 = .ok (.ldc 106, 2) := by decide +kernel
theorem dX5_barMend_44 : decode cX5_barMend 44 = .ok (.goto 4, 3) := by decide +kernel
theorem dX5_barMend_47 : decode cX5_barMend 47 = .ok (.iconst 0, 1) := by decide +kernel
theorem dX5_barMend_48 : decode cX5_barMend 48 = .ok (.ireturn, 1) := by decide +kernel
set_option maxRecDepth 20000 in
theorem ggX5_barOf_X5_barSpan : GoodIn wsX5_barOf wsX5_barSpan := goodIn_r _ [9, 1, 2, 3, 10, 11, 12, 8, 13, 40, 41, 42, 43, 44, 45, 46, 47, 48, 49, 50, 51, 52, 53, 54, 55] (by decide +kernel) (by decide +kernel)
set_option maxRecDepth 20000 in
theorem gX5_barOf_X5_barSpan : GoodIn wsX5_barOf (wsV RX5 107 RX5 yX5_barSpan wsX5_barSpan) := goodIn_app (goodIn_of _ (by decide +kernel)) ggX5_barOf_X5_barSpan
set_option maxRecDepth 20000 in
theorem ggX5_barOf_X5_in : GoodIn wsX5_barOf wsX5_in := goodIn_r _ [13] (by decide +kernel) (by decide +kernel)
set_option maxRecDepth 20000 in
theorem gX5_barOf_X5_in : GoodIn wsX5_barOf (va_wsS RX5 46 yX5_in wsX5_in) := goodIn_app (goodIn_of _ (by decide +kernel)) ggX5_barOf_X5_in
set_option maxRecDepth 20000 in
theorem ggX5_barOf_X5_leastOf : GoodIn wsX5_barOf wsX5_leastOf := goodIn_r _ [16] (by decide +kernel) (by decide +kernel)
set_option maxRecDepth 20000 in
theorem gX5_barOf_X5_leastOf : GoodIn wsX5_barOf (va_wsS RX5 111 yX5_leastOf wsX5_leastOf) := goodIn_app (goodIn_of _ (by decide +kernel)) ggX5_barOf_X5_leastOf
set_option maxRecDepth 20000 in
theorem ggX5_barOf_X5_mostOf : GoodIn wsX5_barOf wsX5_mostOf := goodIn_r _ [19] (by decide +kernel) (by decide +kernel)
set_option maxRecDepth 20000 in
theorem gX5_barOf_X5_mostOf : GoodIn wsX5_barOf (va_wsS RX5 114 yX5_mostOf wsX5_mostOf) := goodIn_app (goodIn_of _ (by decide +kernel)) ggX5_barOf_X5_mostOf
set_option maxRecDepth 20000 in
theorem ggX5_barOf_X5_isNode : GoodIn wsX5_barOf wsX5_isNode := goodIn_r _ [23, 3, 11, 12, 8, 13, 40, 41, 42, 43, 44, 45, 46, 47, 48, 49, 50, 51, 52, 53, 54, 55] (by decide +kernel) (by decide +kernel)
set_option maxRecDepth 20000 in
theorem gX5_barOf_X5_isNode : GoodIn wsX5_barOf (wsV RX5 117 RX5 yX5_isNode wsX5_isNode) := goodIn_app (goodIn_of _ (by decide +kernel)) ggX5_barOf_X5_isNode
set_option maxRecDepth 20000 in
theorem ggX5_barOf_X5_isSpan : GoodIn wsX5_barOf wsX5_isSpan := goodIn_r _ [27, 3, 11, 12, 8, 13, 40, 41, 42, 43, 44, 45, 46, 47, 48, 49, 50, 51, 52, 53, 54, 55] (by decide +kernel) (by decide +kernel)
set_option maxRecDepth 20000 in
theorem gX5_barOf_X5_isSpan : GoodIn wsX5_barOf (wsV RX5 100 RX5 yX5_isSpan wsX5_isSpan) := goodIn_app (goodIn_of _ (by decide +kernel)) ggX5_barOf_X5_isSpan
set_option maxRecDepth 20000 in
theorem ggX5_barOf_X5_barMend : GoodIn wsX5_barOf wsX5_barMend := goodIn_r _ [31, 1, 2, 3, 4, 24, 25, 26, 8, 27, 11, 12, 13, 32, 33, 34, 35, 36, 37, 38, 39, 40, 41, 42, 43, 44, 45, 46, 47, 48, 49, 50, 51, 52, 53, 54, 55] (by decide +kernel) (by decide +kernel)
set_option maxRecDepth 20000 in
theorem gX5_barOf_X5_barMend : GoodIn wsX5_barOf (wsV RX5 120 RX5 yX5_barMend wsX5_barMend) := goodIn_app (goodIn_of _ (by decide +kernel)) ggX5_barOf_X5_barMend
theorem dX5_barOf_0 : decode cX5_barOf 0 = .ok (.iload_n 1, 1) := by decide +kernel
theorem dX5_barOf_1 : decode cX5_barOf 1 = .ok (.lookupswitch 152 #[(104, 51), (107, 56), (109, 147), (112, 107), (120, 127)], 51) := by decide +kernel
theorem dX5_barOf_52 : decode cX5_barOf 52 = .ok (.aload_n 0, 1) := by decide +kernel
theorem dX5_barOf_53 : decode cX5_barOf 53 = .ok (.invokevirtual 107, 3) := by decide +kernel
theorem dX5_barOf_56 : decode cX5_barOf 56 = .ok (.ireturn, 1) := by decide +kernel
theorem dX5_barOf_57 : decode cX5_barOf 57 = .ok (.aload_n 0, 1) := by decide +kernel
theorem dX5_barOf_58 : decode cX5_barOf 58 = .ok (.getfield 31, 3) := by decide +kernel
theorem dX5_barOf_61 : decode cX5_barOf 61 = .ok (.iconst 0, 1) := by decide +kernel
theorem dX5_barOf_62 : decode cX5_barOf 62 = .ok (.iaload, 1) := by decide +kernel
theorem dX5_barOf_63 : decode cX5_barOf 63 = .ok (.iconst 0, 1) := by decide +kernel
theorem dX5_barOf_64 : decode cX5_barOf 64 = .ok (.iconst 5, 1) := by decide +kernel
theorem dX5_barOf_65 : decode cX5_barOf 65 = .ok (.invokestatic 46, 3) := by decide +kernel
theorem dX5_barOf_68 : decode cX5_barOf 68 = .ok (.ifCond .eq 37, 3) := by decide +kernel
theorem dX5_barOf_71 : decode cX5_barOf 71 = .ok (.aload_n 0, 1) := by decide +kernel
theorem dX5_barOf_72 : decode cX5_barOf 72 = .ok (.getfield 31, 3) := by decide +kernel
theorem dX5_barOf_75 : decode cX5_barOf 75 = .ok (.iconst 1, 1) := by decide +kernel
theorem dX5_barOf_76 : decode cX5_barOf 76 = .ok (.iaload, 1) := by decide +kernel
theorem dX5_barOf_77 : decode cX5_barOf 77 = .ok (.aload_n 0, 1) := by decide +kernel
theorem dX5_barOf_78 : decode cX5_barOf 78 = .ok (.getfield 31, 3) := by decide +kernel
theorem dX5_barOf_81 : decode cX5_barOf 81 = .ok (.iconst 0, 1) := by decide +kernel
theorem dX5_barOf_82 : decode cX5_barOf 82 = .ok (.iaload, 1) := by decide +kernel
theorem dX5_barOf_83 : decode cX5_barOf 83 = .ok (.invokestatic 111, 3) := by decide +kernel
theorem dX5_barOf_86 : decode cX5_barOf 86 = .ok (.aload_n 0, 1) := by decide +kernel
theorem dX5_barOf_87 : decode cX5_barOf 87 = .ok (.getfield 31, 3) := by decide +kernel
theorem dX5_barOf_90 : decode cX5_barOf 90 = .ok (.iconst 0, 1) := by decide +kernel
theorem dX5_barOf_91 : decode cX5_barOf 91 = .ok (.iaload, 1) := by decide +kernel
theorem dX5_barOf_92 : decode cX5_barOf 92 = .ok (.invokestatic 114, 3) := by decide +kernel
theorem dX5_barOf_95 : decode cX5_barOf 95 = .ok (.invokestatic 46, 3) := by decide +kernel
theorem dX5_barOf_98 : decode cX5_barOf 98 = .ok (.ifCond .eq 7, 3) := by decide +kernel
theorem dX5_barOf_101 : decode cX5_barOf 101 = .ok (.iconst 0, 1) := by decide +kernel
theorem dX5_barOf_102 : decode cX5_barOf 102 = .ok (.goto 5, 3) := by decide +kernel
theorem dX5_barOf_105 : decode cX5_barOf 105 = .ok (.ldc 37, 2) := by decide +kernel
theorem dX5_barOf_107 : decode cX5_barOf 107 = .ok (.ireturn, 1) := by decide +kernel
theorem dX5_barOf_108 : decode cX5_barOf 108 = .ok (.aload_n 0, 1) := by decide +kernel
theorem dX5_barOf_109 : decode cX5_barOf 109 = .ok (.aload_n 0, 1) := by decide +kernel
theorem dX5_barOf_110 : decode cX5_barOf 110 = .ok (.getfield 31, 3) := by decide +kernel
theorem dX5_barOf_113 : decode cX5_barOf 113 = .ok (.iconst 0, 1) := by decide +kernel
theorem dX5_barOf_114 : decode cX5_barOf 114 = .ok (.iaload, 1) := by decide +kernel
theorem dX5_barOf_115 : decode cX5_barOf 115 = .ok (.invokevirtual 117, 3) := by decide +kernel
theorem dX5_barOf_118 : decode cX5_barOf 118 = .ok (.ifCond .eq 7, 3) := by decide +kernel
theorem dX5_barOf_121 : decode cX5_barOf 121 = .ok (.iconst 0, 1) := by decide +kernel
theorem dX5_barOf_122 : decode cX5_barOf 122 = .ok (.goto 5, 3) := by decide +kernel
theorem dX5_barOf_125 : decode cX5_barOf 125 = .ok (.ldc 37, 2) := by decide +kernel
theorem dX5_barOf_127 : decode cX5_barOf 127 = .ok (.ireturn, 1) := by decide +kernel
theorem dX5_barOf_128 : decode cX5_barOf 128 = .ok (.aload_n 0, 1) := by decide +kernel
theorem dX5_barOf_129 : decode cX5_barOf 129 = .ok (.aload_n 0, 1) := by decide +kernel
theorem dX5_barOf_130 : decode cX5_barOf 130 = .ok (.getfield 31, 3) := by decide +kernel
theorem dX5_barOf_133 : decode cX5_barOf 133 = .ok (.iconst 0, 1) := by decide +kernel
theorem dX5_barOf_134 : decode cX5_barOf 134 = .ok (.iaload, 1) := by decide +kernel
theorem dX5_barOf_135 : decode cX5_barOf 135 = .ok (.invokevirtual 100, 3) := by decide +kernel
theorem dX5_barOf_138 : decode cX5_barOf 138 = .ok (.ifCond .eq 7, 3) := by decide +kernel
theorem dX5_barOf_141 : decode cX5_barOf 141 = .ok (.iconst 0, 1) := by decide +kernel
theorem dX5_barOf_142 : decode cX5_barOf 142 = .ok (.goto 5, 3) := by decide +kernel
theorem dX5_barOf_145 : decode cX5_barOf 145 = .ok (.ldc 37, 2) := by decide +kernel
theorem dX5_barOf_147 : decode cX5_barOf 147 = .ok (.ireturn, 1) := by decide +kernel
theorem dX5_barOf_148 : decode cX5_barOf 148 = .ok (.aload_n 0, 1) := by decide +kernel
theorem dX5_barOf_149 : decode cX5_barOf 149 = .ok (.invokevirtual 120, 3) := by decide +kernel
theorem dX5_barOf_152 : decode cX5_barOf 152 = .ok (.ireturn, 1) := by decide +kernel
theorem dX5_barOf_153 : decode cX5_barOf 153 = .ok (.aload_n 0, 1) := by decide +kernel
theorem dX5_barOf_154 : decode cX5_barOf 154 = .ok (.getfield 7, 3) := by decide +kernel
theorem dX5_barOf_157 : decode cX5_barOf 157 = .ok (.iconst 0, 1) := by decide +kernel
theorem dX5_barOf_158 : decode cX5_barOf 158 = .ok (.iaload, 1) := by decide +kernel
theorem dX5_barOf_159 : decode cX5_barOf 159 = .ok (.ifCond .ne 8, 3) := by decide +kernel
theorem dX5_barOf_162 : decode cX5_barOf 162 = .ok (.ldc 106, 2) := by decide +kernel
theorem dX5_barOf_164 : decode cX5_barOf 164 = .ok (.goto 4, 3) := by decide +kernel
theorem dX5_barOf_167 : decode cX5_barOf 167 = .ok (.iconst 0, 1) := by decide +kernel
theorem dX5_barOf_168 : decode cX5_barOf 168 = .ok (.ireturn, 1) := by decide +kernel
theorem dX5_doSpan_0 : decode cX5_doSpan 0 = .ok (.bipush 8, 2) := by decide +kernel
theorem dX5_doSpan_2 : decode cX5_doSpan 2 = .ok (.iconst 5, 1) := by decide +kernel
theorem dX5_doSpan_3 : decode cX5_doSpan 3 = .ok (.aload_n 0, 1) := by decide +kernel
theorem dX5_doSpan_4 : decode cX5_doSpan 4 = .ok (.getfield 7, 3) := by decide +kernel
theorem dX5_doSpan_7 : decode cX5_doSpan 7 = .ok (.iconst 0, 1) := by decide +kernel
theorem dX5_doSpan_8 : decode cX5_doSpan 8 = .ok (.iaload, 1) := by decide +kernel
theorem dX5_doSpan_9 : decode cX5_doSpan 9 = .ok (.imul, 1) := by decide +kernel
theorem dX5_doSpan_10 : decode cX5_doSpan 10 = .ok (.iadd, 1) := by decide +kernel
theorem dX5_doSpan_11 : decode cX5_doSpan 11 = .ok (.istore_n 1, 1) := by decide +kernel
theorem dX5_doSpan_12 : decode cX5_doSpan 12 = .ok (.iconst 0, 1) := by decide +kernel
theorem dX5_doSpan_13 : decode cX5_doSpan 13 = .ok (.istore_n 2, 1) := by decide +kernel
theorem dX5_doSpan_14 : decode cX5_doSpan 14 = .ok (.iload_n 2, 1) := by decide +kernel
theorem dX5_doSpan_15 : decode cX5_doSpan 15 = .ok (.iconst 5, 1) := by decide +kernel
theorem dX5_doSpan_16 : decode cX5_doSpan 16 = .ok (.if_icmp .ge 32, 3) := by decide +kernel
theorem dX5_doSpan_19 : decode cX5_doSpan 19 = .ok (.aload_n 0, 1) := by decide +kernel
theorem dX5_doSpan_20 : decode cX5_doSpan 20 = .ok (.getfield 7, 3) := by decide +kernel
theorem dX5_doSpan_23 : decode cX5_doSpan 23 = .ok (.iload_n 1, 1) := by decide +kernel
theorem dX5_doSpan_24 : decode cX5_doSpan 24 = .ok (.iload_n 2, 1) := by decide +kernel
theorem dX5_doSpan_25 : decode cX5_doSpan 25 = .ok (.iadd, 1) := by decide +kernel
theorem dX5_doSpan_26 : decode cX5_doSpan 26 = .ok (.iload_n 2, 1) := by decide +kernel
theorem dX5_doSpan_27 : decode cX5_doSpan 27 = .ok (.iconst 4, 1) := by decide +kernel
theorem dX5_doSpan_28 : decode cX5_doSpan 28 = .ok (.if_icmp .ge 12, 3) := by decide +kernel
theorem dX5_doSpan_31 : decode cX5_doSpan 31 = .ok (.aload_n 0, 1) := by decide +kernel
theorem dX5_doSpan_32 : decode cX5_doSpan 32 = .ok (.getfield 31, 3) := by decide +kernel
theorem dX5_doSpan_35 : decode cX5_doSpan 35 = .ok (.iload_n 2, 1) := by decide +kernel
theorem dX5_doSpan_36 : decode cX5_doSpan 36 = .ok (.iaload, 1) := by decide +kernel
theorem dX5_doSpan_37 : decode cX5_doSpan 37 = .ok (.goto 4, 3) := by decide +kernel
theorem dX5_doSpan_40 : decode cX5_doSpan 40 = .ok (.iconst 0, 1) := by decide +kernel
theorem dX5_doSpan_41 : decode cX5_doSpan 41 = .ok (.iastore, 1) := by decide +kernel
theorem dX5_doSpan_42 : decode cX5_doSpan 42 = .ok (.iinc 2 1, 3) := by decide +kernel
theorem dX5_doSpan_45 : decode cX5_doSpan 45 = .ok (.goto (-31), 3) := by decide +kernel
theorem dX5_doSpan_48 : decode cX5_doSpan 48 = .ok (.aload_n 0, 1) := by decide +kernel
theorem dX5_doSpan_49 : decode cX5_doSpan 49 = .ok (.getfield 7, 3) := by decide +kernel
theorem dX5_doSpan_52 : decode cX5_doSpan 52 = .ok (.iconst 0, 1) := by decide +kernel
theorem dX5_doSpan_53 : decode cX5_doSpan 53 = .ok (.dup2, 1) := by decide +kernel
theorem dX5_doSpan_54 : decode cX5_doSpan 54 = .ok (.iaload, 1) := by decide +kernel
theorem dX5_doSpan_55 : decode cX5_doSpan 55 = .ok (.iconst 1, 1) := by decide +kernel
theorem dX5_doSpan_56 : decode cX5_doSpan 56 = .ok (.iadd, 1) := by decide +kernel
theorem dX5_doSpan_57 : decode cX5_doSpan 57 = .ok (.iastore, 1) := by decide +kernel
theorem dX5_doSpan_58 : decode cX5_doSpan 58 = .ok (.aload_n 0, 1) := by decide +kernel
theorem dX5_doSpan_59 : decode cX5_doSpan 59 = .ok (.getfield 7, 3) := by decide +kernel
theorem dX5_doSpan_62 : decode cX5_doSpan 62 = .ok (.iconst 0, 1) := by decide +kernel
theorem dX5_doSpan_63 : decode cX5_doSpan 63 = .ok (.iaload, 1) := by decide +kernel
theorem dX5_doSpan_64 : decode cX5_doSpan 64 = .ok (.iconst 1, 1) := by decide +kernel
theorem dX5_doSpan_65 : decode cX5_doSpan 65 = .ok (.isub, 1) := by decide +kernel
theorem dX5_doSpan_66 : decode cX5_doSpan 66 = .ok (.ireturn, 1) := by decide +kernel
set_option maxRecDepth 20000 in
theorem ggX5_act_X5_doSpan : GoodIn wsX5_act wsX5_doSpan := goodIn_r _ [7, 2, 1, 19, 20, 21, 22, 23, 24, 25, 26, 27, 28, 29, 30, 31, 32, 33, 34] (by decide +kernel) (by decide +kernel)
set_option maxRecDepth 20000 in
theorem gX5_act_X5_doSpan : GoodIn wsX5_act (wsV RX5 123 RX5 yX5_doSpan wsX5_doSpan) := goodIn_app (goodIn_of _ (by decide +kernel)) ggX5_act_X5_doSpan
set_option maxRecDepth 20000 in
theorem ggX5_act_X5_ones : GoodIn wsX5_act wsX5_ones := goodIn_r _ [10] (by decide +kernel) (by decide +kernel)
end
section
set_option maxRecDepth 20000 in
theorem gX5_act_X5_ones : GoodIn wsX5_act (va_wsS RX5 89 yX5_ones wsX5_ones) := goodIn_app (goodIn_of _ (by decide +kernel)) ggX5_act_X5_ones
set_option maxRecDepth 20000 in
theorem ggX5_act_X5_ofSpan : GoodIn wsX5_act wsX5_ofSpan := goodIn_r _ [14, 2, 19, 20, 21, 22, 23, 24, 25, 26, 27, 28, 29, 30, 31, 32, 33, 34] (by decide +kernel) (by decide +kernel)
set_option maxRecDepth 20000 in
theorem gX5_act_X5_ofSpan : GoodIn wsX5_act (wsV RX5 50 RX5 yX5_ofSpan wsX5_ofSpan) := goodIn_app (goodIn_of _ (by decide +kernel)) ggX5_act_X5_ofSpan
set_option maxRecDepth 20000 in
theorem ggX5_act_X5_lengthsOf : GoodIn wsX5_act wsX5_lengthsOf := goodIn_r _ [18, 11, 12, 13, 6, 14, 2, 19, 20, 21, 22, 23, 24, 25, 26, 27, 28, 29, 30, 31, 32, 33, 34] (by decide +kernel) (by decide +kernel)
set_option maxRecDepth 20000 in
theorem gX5_act_X5_lengthsOf : GoodIn wsX5_act (wsV RX5 103 RX5 yX5_lengthsOf wsX5_lengthsOf) := goodIn_app (goodIn_of _ (by decide +kernel)) ggX5_act_X5_lengthsOf
theorem dX5_act_0 : decode cX5_act 0 = .ok (.aload_n 0, 1) := by decide +kernel
theorem dX5_act_1 : decode cX5_act 1 = .ok (.getfield 31, 3) := by decide +kernel
theorem dX5_act_4 : decode cX5_act 4 = .ok (.iconst 0, 1) := by decide +kernel
theorem dX5_act_5 : decode cX5_act 5 = .ok (.iaload, 1) := by decide +kernel
theorem dX5_act_6 : decode cX5_act 6 = .ok (.istore_n 2, 1) := by decide +kernel
theorem dX5_act_7 : decode cX5_act 7 = .ok (.iload_n 1, 1) := by decide +kernel
theorem dX5_act_8 : decode cX5_act 8 = .ok (.lookupswitch 166 #[(104, 52), (107, 57), (109, 129), (112, 82), (120, 104)], 52) := by decide +kernel
theorem dX5_act_60 : decode cX5_act 60 = .ok (.aload_n 0, 1) := by decide +kernel
theorem dX5_act_61 : decode cX5_act 61 = .ok (.invokevirtual 123, 3) := by decide +kernel
theorem dX5_act_64 : decode cX5_act 64 = .ok (.ireturn, 1) := by decide +kernel
theorem dX5_act_65 : decode cX5_act 65 = .ok (.aload_n 0, 1) := by decide +kernel
theorem dX5_act_66 : decode cX5_act 66 = .ok (.getfield 7, 3) := by decide +kernel
theorem dX5_act_69 : decode cX5_act 69 = .ok (.iconst 2, 1) := by decide +kernel
theorem dX5_act_70 : decode cX5_act 70 = .ok (.iload_n 2, 1) := by decide +kernel
theorem dX5_act_71 : decode cX5_act 71 = .ok (.iadd, 1) := by decide +kernel
theorem dX5_act_72 : decode cX5_act 72 = .ok (.iaload, 1) := by decide +kernel
theorem dX5_act_73 : decode cX5_act 73 = .ok (.istore_n 3, 1) := by decide +kernel
theorem dX5_act_74 : decode cX5_act 74 = .ok (.aload_n 0, 1) := by decide +kernel
theorem dX5_act_75 : decode cX5_act 75 = .ok (.getfield 7, 3) := by decide +kernel
theorem dX5_act_78 : decode cX5_act 78 = .ok (.iconst 2, 1) := by decide +kernel
theorem dX5_act_79 : decode cX5_act 79 = .ok (.iload_n 2, 1) := by decide +kernel
theorem dX5_act_80 : decode cX5_act 80 = .ok (.iadd, 1) := by decide +kernel
theorem dX5_act_81 : decode cX5_act 81 = .ok (.aload_n 0, 1) := by decide +kernel
theorem dX5_act_82 : decode cX5_act 82 = .ok (.getfield 31, 3) := by decide +kernel
theorem dX5_act_85 : decode cX5_act 85 = .ok (.iconst 1, 1) := by decide +kernel
theorem dX5_act_86 : decode cX5_act 86 = .ok (.iaload, 1) := by decide +kernel
theorem dX5_act_87 : decode cX5_act 87 = .ok (.iastore, 1) := by decide +kernel
theorem dX5_act_88 : decode cX5_act 88 = .ok (.iload_n 3, 1) := by decide +kernel
theorem dX5_act_89 : decode cX5_act 89 = .ok (.ireturn, 1) := by decide +kernel
theorem dX5_act_90 : decode cX5_act 90 = .ok (.aload_n 0, 1) := by decide +kernel
theorem dX5_act_91 : decode cX5_act 91 = .ok (.getfield 7, 3) := by decide +kernel
theorem dX5_act_94 : decode cX5_act 94 = .ok (.iconst 1, 1) := by decide +kernel
theorem dX5_act_95 : decode cX5_act 95 = .ok (.dup2, 1) := by decide +kernel
theorem dX5_act_96 : decode cX5_act 96 = .ok (.iaload, 1) := by decide +kernel
theorem dX5_act_97 : decode cX5_act 97 = .ok (.iconst 1, 1) := by decide +kernel
theorem dX5_act_98 : decode cX5_act 98 = .ok (.iload_n 2, 1) := by decide +kernel
theorem dX5_act_99 : decode cX5_act 99 = .ok (.ishl, 1) := by decide +kernel
theorem dX5_act_100 : decode cX5_act 100 = .ok (.ixor, 1) := by decide +kernel
theorem dX5_act_101 : decode cX5_act 101 = .ok (.iastore, 1) := by decide +kernel
theorem dX5_act_102 : decode cX5_act 102 = .ok (.aload_n 0, 1) := by decide +kernel
theorem dX5_act_103 : decode cX5_act 103 = .ok (.getfield 7, 3) := by decide +kernel
theorem dX5_act_106 : decode cX5_act 106 = .ok (.iconst 1, 1) := by decide +kernel
theorem dX5_act_107 : decode cX5_act 107 = .ok (.iaload, 1) := by decide +kernel
theorem dX5_act_108 : decode cX5_act 108 = .ok (.invokestatic 89, 3) := by decide +kernel
theorem dX5_act_111 : decode cX5_act 111 = .ok (.ireturn, 1) := by decide +kernel
theorem dX5_act_112 : decode cX5_act 112 = .ok (.aload_n 0, 1) := by decide +kernel
theorem dX5_act_113 : decode cX5_act 113 = .ok (.iload_n 2, 1) := by decide +kernel
theorem dX5_act_114 : decode cX5_act 114 = .ok (.iconst 4, 1) := by decide +kernel
theorem dX5_act_115 : decode cX5_act 115 = .ok (.invokevirtual 50, 3) := by decide +kernel
theorem dX5_act_118 : decode cX5_act 118 = .ok (.istore_n 3, 1) := by decide +kernel
theorem dX5_act_119 : decode cX5_act 119 = .ok (.aload_n 0, 1) := by decide +kernel
theorem dX5_act_120 : decode cX5_act 120 = .ok (.getfield 7, 3) := by decide +kernel
theorem dX5_act_123 : decode cX5_act 123 = .ok (.bipush 8, 2) := by decide +kernel
theorem dX5_act_125 : decode cX5_act 125 = .ok (.iconst 5, 1) := by decide +kernel
theorem dX5_act_126 : decode cX5_act 126 = .ok (.iload_n 2, 1) := by decide +kernel
theorem dX5_act_127 : decode cX5_act 127 = .ok (.imul, 1) := by decide +kernel
theorem dX5_act_128 : decode cX5_act 128 = .ok (.iadd, 1) := by decide +kernel
theorem dX5_act_129 : decode cX5_act 129 = .ok (.iconst 4, 1) := by decide +kernel
theorem dX5_act_130 : decode cX5_act 130 = .ok (.iadd, 1) := by decide +kernel
theorem dX5_act_131 : decode cX5_act 131 = .ok (.iconst 1, 1) := by decide +kernel
theorem dX5_act_132 : decode cX5_act 132 = .ok (.iastore, 1) := by decide +kernel
theorem dX5_act_133 : decode cX5_act 133 = .ok (.iconst 1, 1) := by decide +kernel
theorem dX5_act_134 : decode cX5_act 134 = .ok (.iload_n 3, 1) := by decide +kernel
theorem dX5_act_135 : decode cX5_act 135 = .ok (.isub, 1) := by decide +kernel
theorem dX5_act_136 : decode cX5_act 136 = .ok (.ireturn, 1) := by decide +kernel
theorem dX5_act_137 : decode cX5_act 137 = .ok (.aload_n 0, 1) := by decide +kernel
theorem dX5_act_138 : decode cX5_act 138 = .ok (.getfield 7, 3) := by decide +kernel
theorem dX5_act_141 : decode cX5_act 141 = .ok (.bipush 7, 2) := by decide +kernel
theorem dX5_act_143 : decode cX5_act 143 = .ok (.dup2, 1) := by decide +kernel
theorem dX5_act_144 : decode cX5_act 144 = .ok (.iaload, 1) := by decide +kernel
theorem dX5_act_145 : decode cX5_act 145 = .ok (.aload_n 0, 1) := by decide +kernel
theorem dX5_act_146 : decode cX5_act 146 = .ok (.iload_n 2, 1) := by decide +kernel
theorem dX5_act_147 : decode cX5_act 147 = .ok (.invokevirtual 103, 3) := by decide +kernel
theorem dX5_act_150 : decode cX5_act 150 = .ok (.isub, 1) := by decide +kernel
theorem dX5_act_151 : decode cX5_act 151 = .ok (.iastore, 1) := by decide +kernel
theorem dX5_act_152 : decode cX5_act 152 = .ok (.aload_n 0, 1) := by decide +kernel
theorem dX5_act_153 : decode cX5_act 153 = .ok (.getfield 7, 3) := by decide +kernel
theorem dX5_act_156 : decode cX5_act 156 = .ok (.bipush 8, 2) := by decide +kernel
theorem dX5_act_158 : decode cX5_act 158 = .ok (.iconst 5, 1) := by decide +kernel
theorem dX5_act_159 : decode cX5_act 159 = .ok (.iload_n 2, 1) := by decide +kernel
theorem dX5_act_160 : decode cX5_act 160 = .ok (.imul, 1) := by decide +kernel
theorem dX5_act_161 : decode cX5_act 161 = .ok (.iadd, 1) := by decide +kernel
theorem dX5_act_162 : decode cX5_act 162 = .ok (.iconst 4, 1) := by decide +kernel
theorem dX5_act_163 : decode cX5_act 163 = .ok (.iadd, 1) := by decide +kernel
theorem dX5_act_164 : decode cX5_act 164 = .ok (.iconst 0, 1) := by decide +kernel
theorem dX5_act_165 : decode cX5_act 165 = .ok (.iastore, 1) := by decide +kernel
theorem dX5_act_166 : decode cX5_act 166 = .ok (.aload_n 0, 1) := by decide +kernel
theorem dX5_act_167 : decode cX5_act 167 = .ok (.getfield 7, 3) := by decide +kernel
theorem dX5_act_170 : decode cX5_act 170 = .ok (.bipush 7, 2) := by decide +kernel
theorem dX5_act_172 : decode cX5_act 172 = .ok (.iaload, 1) := by decide +kernel
theorem dX5_act_173 : decode cX5_act 173 = .ok (.ireturn, 1) := by decide +kernel
theorem dX5_act_174 : decode cX5_act 174 = .ok (.aload_n 0, 1) := by decide +kernel
theorem dX5_act_175 : decode cX5_act 175 = .ok (.getfield 7, 3) := by decide +kernel
theorem dX5_act_178 : decode cX5_act 178 = .ok (.iconst 1, 1) := by decide +kernel
theorem dX5_act_179 : decode cX5_act 179 = .ok (.dup2, 1) := by decide +kernel
theorem dX5_act_180 : decode cX5_act 180 = .ok (.iaload, 1) := by decide +kernel
theorem dX5_act_181 : decode cX5_act 181 = .ok (.iconst 1, 1) := by decide +kernel
theorem dX5_act_182 : decode cX5_act 182 = .ok (.aload_n 0, 1) := by decide +kernel
theorem dX5_act_183 : decode cX5_act 183 = .ok (.getfield 7, 3) := by decide +kernel
theorem dX5_act_186 : decode cX5_act 186 = .ok (.iconst 0, 1) := by decide +kernel
theorem dX5_act_187 : decode cX5_act 187 = .ok (.iaload, 1) := by decide +kernel
theorem dX5_act_188 : decode cX5_act 188 = .ok (.ishl, 1) := by decide +kernel
theorem dX5_act_189 : decode cX5_act 189 = .ok (.iconst (-1), 1) := by decide +kernel
theorem dX5_act_190 : decode cX5_act 190 = .ok (.ixor, 1) := by decide +kernel
theorem dX5_act_191 : decode cX5_act 191 = .ok (.iand, 1) := by decide +kernel
theorem dX5_act_192 : decode cX5_act 192 = .ok (.iastore, 1) := by decide +kernel
theorem dX5_act_193 : decode cX5_act 193 = .ok (.aload_n 0, 1) := by decide +kernel
theorem dX5_act_194 : decode cX5_act 194 = .ok (.getfield 7, 3) := by decide +kernel
theorem dX5_act_197 : decode cX5_act 197 = .ok (.iconst 0, 1) := by decide +kernel
theorem dX5_act_198 : decode cX5_act 198 = .ok (.dup2, 1) := by decide +kernel
theorem dX5_act_199 : decode cX5_act 199 = .ok (.iaload, 1) := by decide +kernel
theorem dX5_act_200 : decode cX5_act 200 = .ok (.iconst 1, 1) := by decide +kernel
theorem dX5_act_201 : decode cX5_act 201 = .ok (.isub, 1) := by decide +kernel
theorem dX5_act_202 : decode cX5_act 202 = .ok (.iastore, 1) := by decide +kernel
theorem dX5_act_203 : decode cX5_act 203 = .ok (.aload_n 0, 1) := by decide +kernel
theorem dX5_act_204 : decode cX5_act 204 = .ok (.getfield 7, 3) := by decide +kernel
theorem dX5_act_207 : decode cX5_act 207 = .ok (.iconst 0, 1) := by decide +kernel
theorem dX5_act_208 : decode cX5_act 208 = .ok (.iaload, 1) := by decide +kernel
theorem dX5_act_209 : decode cX5_act 209 = .ok (.ireturn, 1) := by decide +kernel
set_option maxRecDepth 20000 in
theorem ggX5_call_X5_barOf : GoodIn wsX5_call wsX5_barOf := goodIn_r _ [5, 6, 7, 8, 9, 10, 11, 12, 4, 13, 14, 15, 16, 17, 18, 19, 20, 21, 22, 23, 24, 25, 26, 27, 28, 29, 30, 31, 32, 33, 34, 35, 36, 37, 38, 39, 40, 41, 42, 43, 69, 70, 71, 72, 73, 74, 75, 76, 77, 78, 79, 80, 81, 82, 83, 84] (by decide +kernel) (by decide +kernel)
set_option maxRecDepth 20000 in
theorem gX5_call_X5_barOf : GoodIn wsX5_call (wsV RX5 126 RX5 yX5_barOf wsX5_barOf) := goodIn_app (goodIn_of _ (by decide +kernel)) ggX5_call_X5_barOf
set_option maxRecDepth 20000 in
theorem ggX5_call_X5_refuse : GoodIn wsX5_call wsX5_refuse := goodIn_r _ [47, 48, 7, 69, 70, 71, 72, 73, 74, 75, 76, 77, 78, 79, 80, 81, 82, 83, 84] (by decide +kernel) (by decide +kernel)
set_option maxRecDepth 20000 in
theorem gX5_call_X5_refuse : GoodIn wsX5_call (wsV RX5 129 RX5 yX5_refuse wsX5_refuse) := goodIn_app (goodIn_of _ (by decide +kernel)) ggX5_call_X5_refuse
set_option maxRecDepth 20000 in
theorem ggX5_call_X5_note : GoodIn wsX5_call wsX5_note := goodIn_r _ [52, 53, 54, 8, 55, 56, 4, 57, 69, 70, 71, 72, 73, 74, 75, 76, 77, 78, 79, 80, 81, 82, 83, 84] (by decide +kernel) (by decide +kernel)
set_option maxRecDepth 20000 in
theorem gX5_call_X5_note : GoodIn wsX5_call (wsV RX5 132 RX5 yX5_note wsX5_note) := goodIn_app (goodIn_of _ (by decide +kernel)) ggX5_call_X5_note
set_option maxRecDepth 20000 in
theorem ggX5_call_X5_act : GoodIn wsX5_call wsX5_act := goodIn_r _ [61, 6, 8, 62, 63, 64, 4, 65, 66, 67, 68, 36, 37, 38, 39, 40, 41, 42, 43, 69, 70, 71, 72, 73, 74, 75, 76, 77, 78, 79, 80, 81, 82, 83, 84] (by decide +kernel) (by decide +kernel)
set_option maxRecDepth 20000 in
theorem gX5_call_X5_act : GoodIn wsX5_call (wsV RX5 135 RX5 yX5_act wsX5_act) := goodIn_app (goodIn_of _ (by decide +kernel)) ggX5_call_X5_act
theorem dX5_call_0 : decode cX5_call 0 = .ok (.aload_n 0, 1) := by decide +kernel
theorem dX5_call_1 : decode cX5_call 1 = .ok (.iload_n 1, 1) := by decide +kernel
theorem dX5_call_2 : decode cX5_call 2 = .ok (.invokevirtual 126, 3) := by decide +kernel
theorem dX5_call_5 : decode cX5_call 5 = .ok (.istore_n 2, 1) := by decide +kernel
theorem dX5_call_6 : decode cX5_call 6 = .ok (.iload_n 2, 1) := by decide +kernel
theorem dX5_call_7 : decode cX5_call 7 = .ok (.ifCond .eq 9, 3) := by decide +kernel
theorem dX5_call_10 : decode cX5_call 10 = .ok (.aload_n 0, 1) := by decide +kernel
theorem dX5_call_11 : decode cX5_call 11 = .ok (.iload_n 2, 1) := by decide +kernel
theorem dX5_call_12 : decode cX5_call 12 = .ok (.invokevirtual 129, 3) := by decide +kernel
theorem dX5_call_15 : decode cX5_call 15 = .ok (.ireturn, 1) := by decide +kernel
theorem dX5_call_16 : decode cX5_call 16 = .ok (.aload_n 0, 1) := by decide +kernel
theorem dX5_call_17 : decode cX5_call 17 = .ok (.invokevirtual 132, 3) := by decide +kernel
theorem dX5_call_20 : decode cX5_call 20 = .ok (.aload_n 0, 1) := by decide +kernel
theorem dX5_call_21 : decode cX5_call 21 = .ok (.iload_n 1, 1) := by decide +kernel
theorem dX5_call_22 : decode cX5_call 22 = .ok (.invokevirtual 135, 3) := by decide +kernel
theorem dX5_call_25 : decode cX5_call 25 = .ok (.ireturn, 1) := by decide +kernel
set_option maxRecDepth 20000 in
theorem ggX5_span_X5_say : GoodIn wsX5_span wsX5_say := goodIn_r _ [5, 6, 77, 78, 79, 80, 81, 82, 83, 84, 85, 86, 87, 88, 89, 90, 91, 92] (by decide +kernel) (by decide +kernel)
set_option maxRecDepth 20000 in
theorem gX5_span_X5_say : GoodIn wsX5_span (wsV RX5 138 RX5 yX5_say wsX5_say) := goodIn_app (goodIn_of _ (by decide +kernel)) ggX5_span_X5_say
set_option maxRecDepth 20000 in
theorem ggX5_span_X5_call : GoodIn wsX5_span wsX5_call := goodIn_r _ [10, 11, 12, 13, 4, 14, 6, 15, 16, 17, 18, 19, 20, 21, 22, 23, 24, 25, 26, 27, 28, 29, 30, 31, 32, 33, 34, 35, 36, 37, 38, 39, 40, 41, 42, 43, 44, 45, 46, 47, 48, 49, 50, 51, 52, 53, 54, 55, 56, 57, 58, 59, 60, 61, 62, 63, 64, 65, 66, 67, 68, 69, 70, 71, 72, 73, 74, 75, 76, 77, 78, 79, 80, 81, 82, 83, 84, 85, 86, 87, 88, 89, 90, 91, 92] (by decide +kernel) (by decide +kernel)
set_option maxRecDepth 20000 in
theorem gX5_span_X5_call : GoodIn wsX5_span (wsV RX5 142 RX5 yX5_call wsX5_call) := goodIn_app (goodIn_of _ (by decide +kernel)) ggX5_span_X5_call
theorem dX5_span_0 : decode cX5_span 0 = .ok (.aload_n 0, 1) := by decide +kernel
theorem dX5_span_1 : decode cX5_span 1 = .ok (.iload_n 1, 1) := by decide +kernel
theorem dX5_span_2 : decode cX5_span 2 = .ok (.iload_n 2, 1) := by decide +kernel
theorem dX5_span_3 : decode cX5_span 3 = .ok (.iload_n 3, 1) := by decide +kernel
theorem dX5_span_4 : decode cX5_span 4 = .ok (.iload 4, 2) := by decide +kernel
theorem dX5_span_6 : decode cX5_span 6 = .ok (.invokevirtual 138, 3) := by decide +kernel
theorem dX5_span_9 : decode cX5_span 9 = .ok (.aload_n 0, 1) := by decide +kernel
theorem dX5_span_10 : decode cX5_span 10 = .ok (.bipush 104, 2) := by decide +kernel
theorem dX5_span_12 : decode cX5_span 12 = .ok (.invokevirtual 142, 3) := by decide +kernel
theorem dX5_span_15 : decode cX5_span 15 = .ok (.ireturn, 1) := by decide +kernel
set_option maxRecDepth 20000 in
theorem ggX5_cuts_X5_call : GoodIn wsX5_cuts wsX5_call := goodIn_r _ [5, 6, 7, 8, 4, 9, 10, 11, 12, 13, 14, 15, 16, 17, 18, 19, 20, 21, 22, 23, 24, 25, 26, 27, 28, 29, 30, 31, 32, 33, 34, 35, 36, 37, 38, 39, 40, 41, 42, 43, 44, 45, 46, 47, 48, 49, 50, 51, 52, 53, 54, 55, 56, 57, 58, 59, 60, 61, 62, 63, 64, 65, 66, 67, 68, 69, 70, 71, 72, 73, 74, 75, 76, 77, 78, 79, 80, 81, 82, 83, 84, 85, 86, 87, 88] (by decide +kernel) (by decide +kernel)
set_option maxRecDepth 20000 in
theorem gX5_cuts_X5_call : GoodIn wsX5_cuts (wsV RX5 142 RX5 yX5_call wsX5_call) := goodIn_app (goodIn_of _ (by decide +kernel)) ggX5_cuts_X5_call
theorem dX5_cuts_0 : decode cX5_cuts 0 = .ok (.aload_n 0, 1) := by decide +kernel
theorem dX5_cuts_1 : decode cX5_cuts 1 = .ok (.bipush 99, 2) := by decide +kernel
theorem dX5_cuts_3 : decode cX5_cuts 3 = .ok (.invokevirtual 142, 3) := by decide +kernel
theorem dX5_cuts_6 : decode cX5_cuts 6 = .ok (.ireturn, 1) := by decide +kernel
set_option maxRecDepth 20000 in
theorem ggX5_sets_X5_say : GoodIn wsX5_sets wsX5_say := goodIn_r _ [5, 6, 77, 78, 79, 80, 81, 82, 83, 84, 85, 86, 87, 88, 89, 90, 91, 92] (by decide +kernel) (by decide +kernel)
set_option maxRecDepth 20000 in
theorem gX5_sets_X5_say : GoodIn wsX5_sets (wsV RX5 138 RX5 yX5_say wsX5_say) := goodIn_app (goodIn_of _ (by decide +kernel)) ggX5_sets_X5_say
set_option maxRecDepth 20000 in
theorem ggX5_sets_X5_call : GoodIn wsX5_sets wsX5_call := goodIn_r _ [10, 11, 12, 13, 4, 14, 6, 15, 16, 17, 18, 19, 20, 21, 22, 23, 24, 25, 26, 27, 28, 29, 30, 31, 32, 33, 34, 35, 36, 37, 38, 39, 40, 41, 42, 43, 44, 45, 46, 47, 48, 49, 50, 51, 52, 53, 54, 55, 56, 57, 58, 59, 60, 61, 62, 63, 64, 65, 66, 67, 68, 69, 70, 71, 72, 73, 74, 75, 76, 77, 78, 79, 80, 81, 82, 83, 84, 85, 86, 87, 88, 89, 90, 91, 92] (by decide +kernel) (by decide +kernel)
set_option maxRecDepth 20000 in
theorem gX5_sets_X5_call : GoodIn wsX5_sets (wsV RX5 142 RX5 yX5_call wsX5_call) := goodIn_app (goodIn_of _ (by decide +kernel)) ggX5_sets_X5_call
theorem dX5_sets_0 : decode cX5_sets 0 = .ok (.aload_n 0, 1) := by decide +kernel
theorem dX5_sets_1 : decode cX5_sets 1 = .ok (.iload_n 1, 1) := by decide +kernel
theorem dX5_sets_2 : decode cX5_sets 2 = .ok (.iload_n 2, 1) := by decide +kernel
theorem dX5_sets_3 : decode cX5_sets 3 = .ok (.iconst 0, 1) := by decide +kernel
theorem dX5_sets_4 : decode cX5_sets 4 = .ok (.iconst 0, 1) := by decide +kernel
theorem dX5_sets_5 : decode cX5_sets 5 = .ok (.invokevirtual 138, 3) := by decide +kernel
theorem dX5_sets_8 : decode cX5_sets 8 = .ok (.aload_n 0, 1) := by decide +kernel
theorem dX5_sets_9 : decode cX5_sets 9 = .ok (.bipush 107, 2) := by decide +kernel
theorem dX5_sets_11 : decode cX5_sets 11 = .ok (.invokevirtual 142, 3) := by decide +kernel
theorem dX5_sets_14 : decode cX5_sets 14 = .ok (.ireturn, 1) := by decide +kernel
set_option maxRecDepth 20000 in
theorem ggX5_pumps_X5_say : GoodIn wsX5_pumps wsX5_say := goodIn_r _ [5, 6, 77, 78, 79, 80, 81, 82, 83, 84, 85, 86, 87, 88, 89, 90, 91, 92] (by decide +kernel) (by decide +kernel)
set_option maxRecDepth 20000 in
theorem gX5_pumps_X5_say : GoodIn wsX5_pumps (wsV RX5 138 RX5 yX5_say wsX5_say) := goodIn_app (goodIn_of _ (by decide +kernel)) ggX5_pumps_X5_say
set_option maxRecDepth 20000 in
theorem ggX5_pumps_X5_call : GoodIn wsX5_pumps wsX5_call := goodIn_r _ [10, 11, 12, 13, 4, 14, 6, 15, 16, 17, 18, 19, 20, 21, 22, 23, 24, 25, 26, 27, 28, 29, 30, 31, 32, 33, 34, 35, 36, 37, 38, 39, 40, 41, 42, 43, 44, 45, 46, 47, 48, 49, 50, 51, 52, 53, 54, 55, 56, 57, 58, 59, 60, 61, 62, 63, 64, 65, 66, 67, 68, 69, 70, 71, 72, 73, 74, 75, 76, 77, 78, 79, 80, 81, 82, 83, 84, 85, 86, 87, 88, 89, 90, 91, 92] (by decide +kernel) (by decide +kernel)
set_option maxRecDepth 20000 in
theorem gX5_pumps_X5_call : GoodIn wsX5_pumps (wsV RX5 142 RX5 yX5_call wsX5_call) := goodIn_app (goodIn_of _ (by decide +kernel)) ggX5_pumps_X5_call
theorem dX5_pumps_0 : decode cX5_pumps 0 = .ok (.aload_n 0, 1) := by decide +kernel
theorem dX5_pumps_1 : decode cX5_pumps 1 = .ok (.iload_n 1, 1) := by decide +kernel
theorem dX5_pumps_2 : decode cX5_pumps 2 = .ok (.iconst 0, 1) := by decide +kernel
theorem dX5_pumps_3 : decode cX5_pumps 3 = .ok (.iconst 0, 1) := by decide +kernel
theorem dX5_pumps_4 : decode cX5_pumps 4 = .ok (.iconst 0, 1) := by decide +kernel
theorem dX5_pumps_5 : decode cX5_pumps 5 = .ok (.invokevirtual 138, 3) := by decide +kernel
theorem dX5_pumps_8 : decode cX5_pumps 8 = .ok (.aload_n 0, 1) := by decide +kernel
theorem dX5_pumps_9 : decode cX5_pumps 9 = .ok (.bipush 112, 2) := by decide +kernel
theorem dX5_pumps_11 : decode cX5_pumps 11 = .ok (.invokevirtual 142, 3) := by decide +kernel
theorem dX5_pumps_14 : decode cX5_pumps 14 = .ok (.ireturn, 1) := by decide +kernel
set_option maxRecDepth 20000 in
theorem ggX5_bursts_X5_say : GoodIn wsX5_bursts wsX5_say := goodIn_r _ [5, 6, 77, 78, 79, 80, 81, 82, 83, 84, 85, 86, 87, 88, 89, 90, 91, 92] (by decide +kernel) (by decide +kernel)
set_option maxRecDepth 20000 in
theorem gX5_bursts_X5_say : GoodIn wsX5_bursts (wsV RX5 138 RX5 yX5_say wsX5_say) := goodIn_app (goodIn_of _ (by decide +kernel)) ggX5_bursts_X5_say
set_option maxRecDepth 20000 in
theorem ggX5_bursts_X5_call : GoodIn wsX5_bursts wsX5_call := goodIn_r _ [10, 11, 12, 13, 4, 14, 6, 15, 16, 17, 18, 19, 20, 21, 22, 23, 24, 25, 26, 27, 28, 29, 30, 31, 32, 33, 34, 35, 36, 37, 38, 39, 40, 41, 42, 43, 44, 45, 46, 47, 48, 49, 50, 51, 52, 53, 54, 55, 56, 57, 58, 59, 60, 61, 62, 63, 64, 65, 66, 67, 68, 69, 70, 71, 72, 73, 74, 75, 76, 77, 78, 79, 80, 81, 82, 83, 84, 85, 86, 87, 88, 89, 90, 91, 92] (by decide +kernel) (by decide +kernel)
set_option maxRecDepth 20000 in
theorem gX5_bursts_X5_call : GoodIn wsX5_bursts (wsV RX5 142 RX5 yX5_call wsX5_call) := goodIn_app (goodIn_of _ (by decide +kernel)) ggX5_bursts_X5_call
theorem dX5_bursts_0 : decode cX5_bursts 0 = .ok (.aload_n 0, 1) := by decide +kernel
theorem dX5_bursts_1 : decode cX5_bursts 1 = .ok (.iload_n 1, 1) := by decide +kernel
theorem dX5_bursts_2 : decode cX5_bursts 2 = .ok (.iconst 0, 1) := by decide +kernel
theorem dX5_bursts_3 : decode cX5_bursts 3 = .ok (.iconst 0, 1) := by decide +kernel
theorem dX5_bursts_4 : decode cX5_bursts 4 = .ok (.iconst 0, 1) := by decide +kernel
theorem dX5_bursts_5 : decode cX5_bursts 5 = .ok (.invokevirtual 138, 3) := by decide +kernel
theorem dX5_bursts_8 : decode cX5_bursts 8 = .ok (.aload_n 0, 1) := by decide +kernel
theorem dX5_bursts_9 : decode cX5_bursts 9 = .ok (.bipush 120, 2) := by decide +kernel
theorem dX5_bursts_11 : decode cX5_bursts 11 = .ok (.invokevirtual 142, 3) := by decide +kernel
theorem dX5_bursts_14 : decode cX5_bursts 14 = .ok (.ireturn, 1) := by decide +kernel
set_option maxRecDepth 20000 in
theorem ggX5_mends_X5_say : GoodIn wsX5_mends wsX5_say := goodIn_r _ [5, 6, 77, 78, 79, 80, 81, 82, 83, 84, 85, 86, 87, 88, 89, 90, 91, 92] (by decide +kernel) (by decide +kernel)
set_option maxRecDepth 20000 in
theorem gX5_mends_X5_say : GoodIn wsX5_mends (wsV RX5 138 RX5 yX5_say wsX5_say) := goodIn_app (goodIn_of _ (by decide +kernel)) ggX5_mends_X5_say
set_option maxRecDepth 20000 in
theorem ggX5_mends_X5_call : GoodIn wsX5_mends wsX5_call := goodIn_r _ [10, 11, 12, 13, 4, 14, 6, 15, 16, 17, 18, 19, 20, 21, 22, 23, 24, 25, 26, 27, 28, 29, 30, 31, 32, 33, 34, 35, 36, 37, 38, 39, 40, 41, 42, 43, 44, 45, 46, 47, 48, 49, 50, 51, 52, 53, 54, 55, 56, 57, 58, 59, 60, 61, 62, 63, 64, 65, 66, 67, 68, 69, 70, 71, 72, 73, 74, 75, 76, 77, 78, 79, 80, 81, 82, 83, 84, 85, 86, 87, 88, 89, 90, 91, 92] (by decide +kernel) (by decide +kernel)
set_option maxRecDepth 20000 in
theorem gX5_mends_X5_call : GoodIn wsX5_mends (wsV RX5 142 RX5 yX5_call wsX5_call) := goodIn_app (goodIn_of _ (by decide +kernel)) ggX5_mends_X5_call
theorem dX5_mends_0 : decode cX5_mends 0 = .ok (.aload_n 0, 1) := by decide +kernel
theorem dX5_mends_1 : decode cX5_mends 1 = .ok (.iload_n 1, 1) := by decide +kernel
theorem dX5_mends_2 : decode cX5_mends 2 = .ok (.iconst 0, 1) := by decide +kernel
theorem dX5_mends_3 : decode cX5_mends 3 = .ok (.iconst 0, 1) := by decide +kernel
theorem dX5_mends_4 : decode cX5_mends 4 = .ok (.iconst 0, 1) := by decide +kernel
theorem dX5_mends_5 : decode cX5_mends 5 = .ok (.invokevirtual 138, 3) := by decide +kernel
theorem dX5_mends_8 : decode cX5_mends 8 = .ok (.aload_n 0, 1) := by decide +kernel
theorem dX5_mends_9 : decode cX5_mends 9 = .ok (.bipush 109, 2) := by decide +kernel
theorem dX5_mends_11 : decode cX5_mends 11 = .ok (.invokevirtual 142, 3) := by decide +kernel
theorem dX5_mends_14 : decode cX5_mends 14 = .ok (.ireturn, 1) := by decide +kernel
set_option maxRecDepth 20000 in
theorem ggX5_lays_X5_findFewest : GoodIn wsX5_lays wsX5_findFewest := goodIn_r _ [8, 9, 3, 1, 10, 11, 7, 12, 13, 14, 15, 16, 17, 18, 19, 20, 21, 22, 23, 24, 25, 26, 27, 28, 29, 30, 31, 32, 33, 34, 35, 36, 37, 38, 39, 40, 41, 42, 43, 44, 45, 46, 62, 63, 64, 65, 66, 67, 68, 69, 70, 71, 72, 73, 74, 75, 76, 77] (by decide +kernel) (by decide +kernel)
set_option maxRecDepth 20000 in
theorem gX5_lays_X5_findFewest : GoodIn wsX5_lays (wsV RX5 95 RX5 yX5_findFewest wsX5_findFewest) := goodIn_app (goodIn_of _ (by decide +kernel)) ggX5_lays_X5_findFewest
set_option maxRecDepth 20000 in
theorem ggX5_lays_X5_refuse : GoodIn wsX5_lays wsX5_refuse := goodIn_r _ [50, 51, 52, 62, 63, 64, 65, 66, 67, 68, 69, 70, 71, 72, 73, 74, 75, 76, 77] (by decide +kernel) (by decide +kernel)
set_option maxRecDepth 20000 in
theorem gX5_lays_X5_refuse : GoodIn wsX5_lays (wsV RX5 129 RX5 yX5_refuse wsX5_refuse) := goodIn_app (goodIn_of _ (by decide +kernel)) ggX5_lays_X5_refuse
set_option maxRecDepth 20000 in
theorem ggX5_lays_X5_note : GoodIn wsX5_lays wsX5_note := goodIn_r _ [56, 57, 58, 1, 59, 60, 7, 61, 62, 63, 64, 65, 66, 67, 68, 69, 70, 71, 72, 73, 74, 75, 76, 77] (by decide +kernel) (by decide +kernel)
set_option maxRecDepth 20000 in
theorem gX5_lays_X5_note : GoodIn wsX5_lays (wsV RX5 132 RX5 yX5_note wsX5_note) := goodIn_app (goodIn_of _ (by decide +kernel)) ggX5_lays_X5_note
set_option maxRecDepth 20000 in
theorem ggX5_lays_X5_ones : GoodIn wsX5_lays wsX5_ones := goodIn_r _ [12] (by decide +kernel) (by decide +kernel)
set_option maxRecDepth 20000 in
theorem gX5_lays_X5_ones : GoodIn wsX5_lays (va_wsS RX5 89 yX5_ones wsX5_ones) := goodIn_app (goodIn_of _ (by decide +kernel)) ggX5_lays_X5_ones
theorem dX5_lays_0 : decode cX5_lays 0 = .ok (.aload_n 0, 1) := by decide +kernel
theorem dX5_lays_1 : decode cX5_lays 1 = .ok (.aload_n 0, 1) := by decide +kernel
theorem dX5_lays_2 : decode cX5_lays 2 = .ok (.getfield 7, 3) := by decide +kernel
theorem dX5_lays_5 : decode cX5_lays 5 = .ok (.iconst 2, 1) := by decide +kernel
theorem dX5_lays_6 : decode cX5_lays 6 = .ok (.iaload, 1) := by decide +kernel
theorem dX5_lays_7 : decode cX5_lays 7 = .ok (.invokevirtual 95, 3) := by decide +kernel
theorem dX5_lays_10 : decode cX5_lays 10 = .ok (.ifCond .ne 10, 3) := by decide +kernel
theorem dX5_lays_13 : decode cX5_lays 13 = .ok (.aload_n 0, 1) := by decide +kernel
theorem dX5_lays_14 : decode cX5_lays 14 = .ok (.ldc 106, 2) := by decide +kernel
theorem dX5_lays_16 : decode cX5_lays 16 = .ok (.invokevirtual 129, 3) := by decide +kernel
theorem dX5_lays_19 : decode cX5_lays 19 = .ok (.ireturn, 1) := by decide +kernel
theorem dX5_lays_20 : decode cX5_lays 20 = .ok (.aload_n 0, 1) := by decide +kernel
theorem dX5_lays_21 : decode cX5_lays 21 = .ok (.invokevirtual 132, 3) := by decide +kernel
theorem dX5_lays_24 : decode cX5_lays 24 = .ok (.aload_n 0, 1) := by decide +kernel
theorem dX5_lays_25 : decode cX5_lays 25 = .ok (.getfield 7, 3) := by decide +kernel
theorem dX5_lays_28 : decode cX5_lays 28 = .ok (.iconst 1, 1) := by decide +kernel
theorem dX5_lays_29 : decode cX5_lays 29 = .ok (.aload_n 0, 1) := by decide +kernel
theorem dX5_lays_30 : decode cX5_lays 30 = .ok (.getfield 86, 3) := by decide +kernel
theorem dX5_lays_33 : decode cX5_lays 33 = .ok (.iastore, 1) := by decide +kernel
theorem dX5_lays_34 : decode cX5_lays 34 = .ok (.aload_n 0, 1) := by decide +kernel
theorem dX5_lays_35 : decode cX5_lays 35 = .ok (.getfield 86, 3) := by decide +kernel
theorem dX5_lays_38 : decode cX5_lays 38 = .ok (.invokestatic 89, 3) := by decide +kernel
theorem dX5_lays_41 : decode cX5_lays 41 = .ok (.ireturn, 1) := by decide +kernel
set_option maxRecDepth 20000 in
theorem ggX5_of_X5_isSpan : GoodIn wsX5_of wsX5_isSpan := goodIn_r _ [6, 7, 8, 9, 5, 10, 20, 21, 22, 23, 24, 25, 26, 27, 28, 29, 30, 31, 32, 33, 34, 35] (by decide +kernel) (by decide +kernel)
set_option maxRecDepth 20000 in
theorem gX5_of_X5_isSpan : GoodIn wsX5_of (wsV RX5 100 RX5 yX5_isSpan wsX5_isSpan) := goodIn_app (goodIn_of _ (by decide +kernel)) ggX5_of_X5_isSpan
set_option maxRecDepth 20000 in
theorem ggX5_of_X5_in : GoodIn wsX5_of wsX5_in := goodIn_r _ [10] (by decide +kernel) (by decide +kernel)
set_option maxRecDepth 20000 in
theorem gX5_of_X5_in : GoodIn wsX5_of (va_wsS RX5 46 yX5_in wsX5_in) := goodIn_app (goodIn_of _ (by decide +kernel)) ggX5_of_X5_in
set_option maxRecDepth 20000 in
theorem ggX5_of_X5_ofSpan : GoodIn wsX5_of wsX5_ofSpan := goodIn_r _ [14, 7, 20, 21, 22, 23, 24, 25, 26, 27, 28, 29, 30, 31, 32, 33, 34, 35] (by decide +kernel) (by decide +kernel)
set_option maxRecDepth 20000 in
theorem gX5_of_X5_ofSpan : GoodIn wsX5_of (wsV RX5 50 RX5 yX5_ofSpan wsX5_ofSpan) := goodIn_app (goodIn_of _ (by decide +kernel)) ggX5_of_X5_ofSpan
set_option maxRecDepth 20000 in
theorem ggX5_of_X5_refuse : GoodIn wsX5_of wsX5_refuse := goodIn_r _ [18, 19, 1, 20, 21, 22, 23, 24, 25, 26, 27, 28, 29, 30, 31, 32, 33, 34, 35] (by decide +kernel) (by decide +kernel)
set_option maxRecDepth 20000 in
theorem gX5_of_X5_refuse : GoodIn wsX5_of (wsV RX5 129 RX5 yX5_refuse wsX5_refuse) := goodIn_app (goodIn_of _ (by decide +kernel)) ggX5_of_X5_refuse
theorem dX5_of_0 : decode cX5_of 0 = .ok (.aload_n 0, 1) := by decide +kernel
theorem dX5_of_1 : decode cX5_of 1 = .ok (.iload_n 1, 1) := by decide +kernel
theorem dX5_of_2 : decode cX5_of 2 = .ok (.invokevirtual 100, 3) := by decide +kernel
theorem dX5_of_5 : decode cX5_of 5 = .ok (.ifCond .eq 21, 3) := by decide +kernel
theorem dX5_of_8 : decode cX5_of 8 = .ok (.iload_n 2, 1) := by decide +kernel
theorem dX5_of_9 : decode cX5_of 9 = .ok (.iconst 0, 1) := by decide +kernel
theorem dX5_of_10 : decode cX5_of 10 = .ok (.iconst 4, 1) := by decide +kernel
theorem dX5_of_11 : decode cX5_of 11 = .ok (.invokestatic 46, 3) := by decide +kernel
theorem dX5_of_14 : decode cX5_of 14 = .ok (.ifCond .eq 12, 3) := by decide +kernel
theorem dX5_of_17 : decode cX5_of 17 = .ok (.aload_n 0, 1) := by decide +kernel
theorem dX5_of_18 : decode cX5_of 18 = .ok (.iload_n 1, 1) := by decide +kernel
theorem dX5_of_19 : decode cX5_of 19 = .ok (.iload_n 2, 1) := by decide +kernel
theorem dX5_of_20 : decode cX5_of 20 = .ok (.invokevirtual 50, 3) := by decide +kernel
theorem dX5_of_23 : decode cX5_of 23 = .ok (.goto 9, 3) := by decide +kernel
theorem dX5_of_26 : decode cX5_of 26 = .ok (.aload_n 0, 1) := by decide +kernel
theorem dX5_of_27 : decode cX5_of 27 = .ok (.ldc 37, 2) := by decide +kernel
theorem dX5_of_29 : decode cX5_of 29 = .ok (.invokevirtual 129, 3) := by decide +kernel
theorem dX5_of_32 : decode cX5_of 32 = .ok (.ireturn, 1) := by decide +kernel
set_option maxRecDepth 20000 in
theorem ggX5_loss_X5_isSpan : GoodIn wsX5_loss wsX5_isSpan := goodIn_r _ [6, 7, 8, 9, 5, 10, 27, 28, 29, 30, 31, 32, 33, 34, 35, 36, 37, 38, 39, 40, 41, 42] (by decide +kernel) (by decide +kernel)
set_option maxRecDepth 20000 in
theorem gX5_loss_X5_isSpan : GoodIn wsX5_loss (wsV RX5 100 RX5 yX5_isSpan wsX5_isSpan) := goodIn_app (goodIn_of _ (by decide +kernel)) ggX5_loss_X5_isSpan
set_option maxRecDepth 20000 in
theorem ggX5_loss_X5_in : GoodIn wsX5_loss wsX5_in := goodIn_r _ [10] (by decide +kernel) (by decide +kernel)
set_option maxRecDepth 20000 in
theorem gX5_loss_X5_in : GoodIn wsX5_loss (va_wsS RX5 46 yX5_in wsX5_in) := goodIn_app (goodIn_of _ (by decide +kernel)) ggX5_loss_X5_in
set_option maxRecDepth 20000 in
theorem ggX5_loss_X5_lossOf : GoodIn wsX5_loss wsX5_lossOf := goodIn_r _ [14, 15, 16, 17, 5, 18, 7, 19, 20, 21, 27, 28, 29, 30, 31, 32, 33, 34, 35, 36, 37, 38, 39, 40, 41, 42] (by decide +kernel) (by decide +kernel)
set_option maxRecDepth 20000 in
theorem gX5_loss_X5_lossOf : GoodIn wsX5_loss (wsV RX5 71 RX5 yX5_lossOf wsX5_lossOf) := goodIn_app (goodIn_of _ (by decide +kernel)) ggX5_loss_X5_lossOf
set_option maxRecDepth 20000 in
theorem ggX5_loss_X5_refuse : GoodIn wsX5_loss wsX5_refuse := goodIn_r _ [25, 26, 1, 27, 28, 29, 30, 31, 32, 33, 34, 35, 36, 37, 38, 39, 40, 41, 42] (by decide +kernel) (by decide +kernel)
set_option maxRecDepth 20000 in
theorem gX5_loss_X5_refuse : GoodIn wsX5_loss (wsV RX5 129 RX5 yX5_refuse wsX5_refuse) := goodIn_app (goodIn_of _ (by decide +kernel)) ggX5_loss_X5_refuse
theorem dX5_loss_0 : decode cX5_loss 0 = .ok (.aload_n 0, 1) := by decide +kernel
theorem dX5_loss_1 : decode cX5_loss 1 = .ok (.iload_n 1, 1) := by decide +kernel
theorem dX5_loss_2 : decode cX5_loss 2 = .ok (.invokevirtual 100, 3) := by decide +kernel
theorem dX5_loss_5 : decode cX5_loss 5 = .ok (.ifCond .eq 22, 3) := by decide +kernel
theorem dX5_loss_8 : decode cX5_loss 8 = .ok (.iload_n 2, 1) := by decide +kernel
theorem dX5_loss_9 : decode cX5_loss 9 = .ok (.iconst 1, 1) := by decide +kernel
theorem dX5_loss_10 : decode cX5_loss 10 = .ok (.bipush 30, 2) := by decide +kernel
theorem dX5_loss_12 : decode cX5_loss 12 = .ok (.invokestatic 46, 3) := by decide +kernel
theorem dX5_loss_15 : decode cX5_loss 15 = .ok (.ifCond .eq 12, 3) := by decide +kernel
theorem dX5_loss_18 : decode cX5_loss 18 = .ok (.aload_n 0, 1) := by decide +kernel
theorem dX5_loss_19 : decode cX5_loss 19 = .ok (.iload_n 1, 1) := by decide +kernel
theorem dX5_loss_20 : decode cX5_loss 20 = .ok (.iload_n 2, 1) := by decide +kernel
theorem dX5_loss_21 : decode cX5_loss 21 = .ok (.invokevirtual 71, 3) := by decide +kernel
theorem dX5_loss_24 : decode cX5_loss 24 = .ok (.goto 9, 3) := by decide +kernel
theorem dX5_loss_27 : decode cX5_loss 27 = .ok (.aload_n 0, 1) := by decide +kernel
theorem dX5_loss_28 : decode cX5_loss 28 = .ok (.ldc 37, 2) := by decide +kernel
theorem dX5_loss_30 : decode cX5_loss 30 = .ok (.invokevirtual 129, 3) := by decide +kernel
theorem dX5_loss_33 : decode cX5_loss 33 = .ok (.ireturn, 1) := by decide +kernel
set_option maxRecDepth 20000 in
theorem ggX5_node_X5_isNode : GoodIn wsX5_node wsX5_isNode := goodIn_r _ [9, 2, 10, 11, 8, 12, 51, 52, 53, 54, 55, 56, 57, 58, 59, 60, 61, 62, 63, 64, 65, 66] (by decide +kernel) (by decide +kernel)
set_option maxRecDepth 20000 in
theorem gX5_node_X5_isNode : GoodIn wsX5_node (wsV RX5 117 RX5 yX5_isNode wsX5_isNode) := goodIn_app (goodIn_of _ (by decide +kernel)) ggX5_node_X5_isNode
set_option maxRecDepth 20000 in
theorem ggX5_node_X5_in : GoodIn wsX5_node wsX5_in := goodIn_r _ [12] (by decide +kernel) (by decide +kernel)
set_option maxRecDepth 20000 in
theorem gX5_node_X5_in : GoodIn wsX5_node (va_wsS RX5 46 yX5_in wsX5_in) := goodIn_app (goodIn_of _ (by decide +kernel)) ggX5_node_X5_in
set_option maxRecDepth 20000 in
theorem ggX5_node_X5_refuse : GoodIn wsX5_node wsX5_refuse := goodIn_r _ [16, 17, 1, 51, 52, 53, 54, 55, 56, 57, 58, 59, 60, 61, 62, 63, 64, 65, 66] (by decide +kernel) (by decide +kernel)
set_option maxRecDepth 20000 in
theorem gX5_node_X5_refuse : GoodIn wsX5_node (wsV RX5 129 RX5 yX5_refuse wsX5_refuse) := goodIn_app (goodIn_of _ (by decide +kernel)) ggX5_node_X5_refuse
set_option maxRecDepth 20000 in
theorem ggX5_node_X5_goRun : GoodIn wsX5_node wsX5_goRun := goodIn_r _ [21, 3, 22, 4, 23, 24, 25, 2, 26, 27, 8, 28, 29, 30, 31, 32, 33, 34, 35, 36, 37, 38, 39, 40, 41, 42, 43, 44, 45, 46, 47, 48, 49, 50, 51, 52, 53, 54, 55, 56, 57, 58, 59, 60, 61, 62, 63, 64, 65, 66] (by decide +kernel) (by decide +kernel)
set_option maxRecDepth 20000 in
theorem gX5_node_X5_goRun : GoodIn wsX5_node (wsV RX5 92 RX5 yX5_goRun wsX5_goRun) := goodIn_app (goodIn_of _ (by decide +kernel)) ggX5_node_X5_goRun
theorem dX5_node_0 : decode cX5_node 0 = .ok (.aload_n 0, 1) := by decide +kernel
theorem dX5_node_1 : decode cX5_node 1 = .ok (.iload_n 1, 1) := by decide +kernel
theorem dX5_node_2 : decode cX5_node 2 = .ok (.invokevirtual 117, 3) := by decide +kernel
theorem dX5_node_5 : decode cX5_node 5 = .ok (.ifCond .eq 12, 3) := by decide +kernel
theorem dX5_node_8 : decode cX5_node 8 = .ok (.iload_n 2, 1) := by decide +kernel
theorem dX5_node_9 : decode cX5_node 9 = .ok (.iconst 0, 1) := by decide +kernel
theorem dX5_node_10 : decode cX5_node 10 = .ok (.iconst 1, 1) := by decide +kernel
theorem dX5_node_11 : decode cX5_node 11 = .ok (.invokestatic 46, 3) := by decide +kernel
theorem dX5_node_14 : decode cX5_node 14 = .ok (.ifCond .ne 10, 3) := by decide +kernel
theorem dX5_node_17 : decode cX5_node 17 = .ok (.aload_n 0, 1) := by decide +kernel
theorem dX5_node_18 : decode cX5_node 18 = .ok (.ldc 37, 2) := by decide +kernel
theorem dX5_node_20 : decode cX5_node 20 = .ok (.invokevirtual 129, 3) := by decide +kernel
theorem dX5_node_23 : decode cX5_node 23 = .ok (.ireturn, 1) := by decide +kernel
theorem dX5_node_24 : decode cX5_node 24 = .ok (.aload_n 0, 1) := by decide +kernel
theorem dX5_node_25 : decode cX5_node 25 = .ok (.aload_n 0, 1) := by decide +kernel
theorem dX5_node_26 : decode cX5_node 26 = .ok (.getfield 7, 3) := by decide +kernel
theorem dX5_node_29 : decode cX5_node 29 = .ok (.iconst 2, 1) := by decide +kernel
theorem dX5_node_30 : decode cX5_node 30 = .ok (.iaload, 1) := by decide +kernel
theorem dX5_node_31 : decode cX5_node 31 = .ok (.aload_n 0, 1) := by decide +kernel
theorem dX5_node_32 : decode cX5_node 32 = .ok (.getfield 7, 3) := by decide +kernel
theorem dX5_node_35 : decode cX5_node 35 = .ok (.iconst 1, 1) := by decide +kernel
theorem dX5_node_36 : decode cX5_node 36 = .ok (.iaload, 1) := by decide +kernel
theorem dX5_node_37 : decode cX5_node 37 = .ok (.invokevirtual 92, 3) := by decide +kernel
theorem dX5_node_40 : decode cX5_node 40 = .ok (.istore_n 3, 1) := by decide +kernel
theorem dX5_node_41 : decode cX5_node 41 = .ok (.iload_n 2, 1) := by decide +kernel
theorem dX5_node_42 : decode cX5_node 42 = .ok (.ifCond .ne 12, 3) := by decide +kernel
theorem dX5_node_45 : decode cX5_node 45 = .ok (.aload_n 0, 1) := by decide +kernel
theorem dX5_node_46 : decode cX5_node 46 = .ok (.getfield 25, 3) := by decide +kernel
theorem dX5_node_49 : decode cX5_node 49 = .ok (.iload_n 1, 1) := by decide +kernel
theorem dX5_node_50 : decode cX5_node 50 = .ok (.iaload, 1) := by decide +kernel
theorem dX5_node_51 : decode cX5_node 51 = .ok (.goto 9, 3) := by decide +kernel
theorem dX5_node_54 : decode cX5_node 54 = .ok (.aload_n 0, 1) := by decide +kernel
theorem dX5_node_55 : decode cX5_node 55 = .ok (.getfield 28, 3) := by decide +kernel
theorem dX5_node_58 : decode cX5_node 58 = .ok (.iload_n 1, 1) := by decide +kernel
theorem dX5_node_59 : decode cX5_node 59 = .ok (.iaload, 1) := by decide +kernel
theorem dX5_node_60 : decode cX5_node 60 = .ok (.ireturn, 1) := by decide +kernel
set_option maxRecDepth 20000 in
theorem ggX5_ofRun_X5_goRun : GoodIn wsX5_ofRun wsX5_goRun := goodIn_r _ [10, 11, 2, 12, 3, 4, 5, 1, 13, 14, 9, 15, 16, 17, 18, 19, 20, 21, 22, 23, 24, 25, 26, 27, 28, 29, 30, 31, 32, 33, 34, 35, 36, 37, 38, 39, 40, 41, 42, 43, 44, 45, 46, 47, 48, 49, 50, 51, 52, 53] (by decide +kernel) (by decide +kernel)
set_option maxRecDepth 20000 in
theorem gX5_ofRun_X5_goRun : GoodIn wsX5_ofRun (wsV RX5 92 RX5 yX5_goRun wsX5_goRun) := goodIn_app (goodIn_of _ (by decide +kernel)) ggX5_ofRun_X5_goRun
theorem dX5_ofRun_0 : decode cX5_ofRun 0 = .ok (.aload_n 0, 1) := by decide +kernel
theorem dX5_ofRun_1 : decode cX5_ofRun 1 = .ok (.aload_n 0, 1) := by decide +kernel
theorem dX5_ofRun_2 : decode cX5_ofRun 2 = .ok (.getfield 7, 3) := by decide +kernel
theorem dX5_ofRun_5 : decode cX5_ofRun 5 = .ok (.iconst 2, 1) := by decide +kernel
theorem dX5_ofRun_6 : decode cX5_ofRun 6 = .ok (.iaload, 1) := by decide +kernel
theorem dX5_ofRun_7 : decode cX5_ofRun 7 = .ok (.aload_n 0, 1) := by decide +kernel
theorem dX5_ofRun_8 : decode cX5_ofRun 8 = .ok (.getfield 7, 3) := by decide +kernel
theorem dX5_ofRun_11 : decode cX5_ofRun 11 = .ok (.iconst 1, 1) := by decide +kernel
theorem dX5_ofRun_12 : decode cX5_ofRun 12 = .ok (.iaload, 1) := by decide +kernel
theorem dX5_ofRun_13 : decode cX5_ofRun 13 = .ok (.invokevirtual 92, 3) := by decide +kernel
theorem dX5_ofRun_16 : decode cX5_ofRun 16 = .ok (.istore_n 2, 1) := by decide +kernel
theorem dX5_ofRun_17 : decode cX5_ofRun 17 = .ok (.iload_n 1, 1) := by decide +kernel
theorem dX5_ofRun_18 : decode cX5_ofRun 18 = .ok (.ifCond .ne 19, 3) := by decide +kernel
theorem dX5_ofRun_21 : decode cX5_ofRun 21 = .ok (.iload_n 2, 1) := by decide +kernel
theorem dX5_ofRun_22 : decode cX5_ofRun 22 = .ok (.ifCond .eq 8, 3) := by decide +kernel
theorem dX5_ofRun_25 : decode cX5_ofRun 25 = .ok (.ldc 74, 2) := by decide +kernel
theorem dX5_ofRun_27 : decode cX5_ofRun 27 = .ok (.goto 26, 3) := by decide +kernel
theorem dX5_ofRun_30 : decode cX5_ofRun 30 = .ok (.aload_n 0, 1) := by decide +kernel
theorem dX5_ofRun_31 : decode cX5_ofRun 31 = .ok (.getfield 58, 3) := by decide +kernel
theorem dX5_ofRun_34 : decode cX5_ofRun 34 = .ok (.goto 19, 3) := by decide +kernel
theorem dX5_ofRun_37 : decode cX5_ofRun 37 = .ok (.iload_n 1, 1) := by decide +kernel
theorem dX5_ofRun_38 : decode cX5_ofRun 38 = .ok (.iconst 1, 1) := by decide +kernel
theorem dX5_ofRun_39 : decode cX5_ofRun 39 = .ok (.if_icmp .ne 10, 3) := by decide +kernel
theorem dX5_ofRun_42 : decode cX5_ofRun 42 = .ok (.aload_n 0, 1) := by decide +kernel
theorem dX5_ofRun_43 : decode cX5_ofRun 43 = .ok (.getfield 61, 3) := by decide +kernel
theorem dX5_ofRun_46 : decode cX5_ofRun 46 = .ok (.goto 7, 3) := by decide +kernel
theorem dX5_ofRun_49 : decode cX5_ofRun 49 = .ok (.aload_n 0, 1) := by decide +kernel
theorem dX5_ofRun_50 : decode cX5_ofRun 50 = .ok (.getfield 75, 3) := by decide +kernel
theorem dX5_ofRun_53 : decode cX5_ofRun 53 = .ok (.ireturn, 1) := by decide +kernel
set_option maxRecDepth 20000 in
theorem ggX5_run_X5_in : GoodIn wsX5_run wsX5_in := goodIn_r _ [5] (by decide +kernel) (by decide +kernel)
set_option maxRecDepth 20000 in
theorem gX5_run_X5_in : GoodIn wsX5_run (va_wsS RX5 46 yX5_in wsX5_in) := goodIn_app (goodIn_of _ (by decide +kernel)) ggX5_run_X5_in
set_option maxRecDepth 20000 in
theorem ggX5_run_X5_ofRun : GoodIn wsX5_run wsX5_ofRun := goodIn_r _ [9, 10, 11, 12, 13, 14, 15, 16, 17, 4, 18, 19, 20, 21, 22, 23, 24, 25, 26, 27, 28, 29, 30, 31, 32, 33, 34, 35, 36, 37, 38, 39, 40, 41, 42, 43, 44, 45, 51, 52, 53, 54, 55, 56, 57, 58, 59, 60, 61, 62, 63, 64, 65, 66] (by decide +kernel) (by decide +kernel)
set_option maxRecDepth 20000 in
theorem gX5_run_X5_ofRun : GoodIn wsX5_run (wsV RX5 145 RX5 yX5_ofRun wsX5_ofRun) := goodIn_app (goodIn_of _ (by decide +kernel)) ggX5_run_X5_ofRun
set_option maxRecDepth 20000 in
theorem ggX5_run_X5_refuse : GoodIn wsX5_run wsX5_refuse := goodIn_r _ [49, 50, 1, 51, 52, 53, 54, 55, 56, 57, 58, 59, 60, 61, 62, 63, 64, 65, 66] (by decide +kernel) (by decide +kernel)
set_option maxRecDepth 20000 in
theorem gX5_run_X5_refuse : GoodIn wsX5_run (wsV RX5 129 RX5 yX5_refuse wsX5_refuse) := goodIn_app (goodIn_of _ (by decide +kernel)) ggX5_run_X5_refuse
theorem dX5_run_0 : decode cX5_run 0 = .ok (.iload_n 1, 1) := by decide +kernel
theorem dX5_run_1 : decode cX5_run 1 = .ok (.iconst 0, 1) := by decide +kernel
theorem dX5_run_2 : decode cX5_run 2 = .ok (.iconst 2, 1) := by decide +kernel
theorem dX5_run_3 : decode cX5_run 3 = .ok (.invokestatic 46, 3) := by decide +kernel
theorem dX5_run_6 : decode cX5_run 6 = .ok (.ifCond .eq 11, 3) := by decide +kernel
theorem dX5_run_9 : decode cX5_run 9 = .ok (.aload_n 0, 1) := by decide +kernel
theorem dX5_run_10 : decode cX5_run 10 = .ok (.iload_n 1, 1) := by decide +kernel
theorem dX5_run_11 : decode cX5_run 11 = .ok (.invokevirtual 145, 3) := by decide +kernel
theorem dX5_run_14 : decode cX5_run 14 = .ok (.goto 9, 3) := by decide +kernel
theorem dX5_run_17 : decode cX5_run 17 = .ok (.aload_n 0, 1) := by decide +kernel
theorem dX5_run_18 : decode cX5_run 18 = .ok (.ldc 37, 2) := by decide +kernel
theorem dX5_run_20 : decode cX5_run 20 = .ok (.invokevirtual 129, 3) := by decide +kernel
theorem dX5_run_23 : decode cX5_run 23 = .ok (.ireturn, 1) := by decide +kernel
set_option maxRecDepth 20000 in
theorem ggX5_fewest_X5_in : GoodIn wsX5_fewest wsX5_in := goodIn_r _ [5] (by decide +kernel) (by decide +kernel)
set_option maxRecDepth 20000 in
theorem gX5_fewest_X5_in : GoodIn wsX5_fewest (va_wsS RX5 46 yX5_in wsX5_in) := goodIn_app (goodIn_of _ (by decide +kernel)) ggX5_fewest_X5_in
set_option maxRecDepth 20000 in
theorem ggX5_fewest_X5_fewestOf : GoodIn wsX5_fewest wsX5_fewestOf := goodIn_r _ [9, 10, 11, 12, 13, 14, 4, 15, 16, 17, 18, 19, 20, 21, 22, 23, 24, 25, 26, 27, 28, 29, 30, 31, 32, 33, 34, 35, 36, 37, 38, 39, 40, 41, 42, 43, 44, 45, 46, 47, 48, 49, 50, 51, 52, 53, 59, 60, 61, 62, 63, 64, 65, 66, 67, 68, 69, 70, 71, 72, 73, 74] (by decide +kernel) (by decide +kernel)
set_option maxRecDepth 20000 in
theorem gX5_fewest_X5_fewestOf : GoodIn wsX5_fewest (wsV RX5 148 RX5 yX5_fewestOf wsX5_fewestOf) := goodIn_app (goodIn_of _ (by decide +kernel)) ggX5_fewest_X5_fewestOf
set_option maxRecDepth 20000 in
theorem ggX5_fewest_X5_refuse : GoodIn wsX5_fewest wsX5_refuse := goodIn_r _ [57, 58, 1, 59, 60, 61, 62, 63, 64, 65, 66, 67, 68, 69, 70, 71, 72, 73, 74] (by decide +kernel) (by decide +kernel)
set_option maxRecDepth 20000 in
theorem gX5_fewest_X5_refuse : GoodIn wsX5_fewest (wsV RX5 129 RX5 yX5_refuse wsX5_refuse) := goodIn_app (goodIn_of _ (by decide +kernel)) ggX5_fewest_X5_refuse
theorem dX5_fewest_0 : decode cX5_fewest 0 = .ok (.iload_n 1, 1) := by decide +kernel
theorem dX5_fewest_1 : decode cX5_fewest 1 = .ok (.iconst 1, 1) := by decide +kernel
theorem dX5_fewest_2 : decode cX5_fewest 2 = .ok (.bipush 30, 2) := by decide +kernel
theorem dX5_fewest_4 : decode cX5_fewest 4 = .ok (.invokestatic 46, 3) := by decide +kernel
theorem dX5_fewest_7 : decode cX5_fewest 7 = .ok (.ifCond .eq 21, 3) := by decide +kernel
theorem dX5_fewest_10 : decode cX5_fewest 10 = .ok (.iload_n 2, 1) := by decide +kernel
theorem dX5_fewest_11 : decode cX5_fewest 11 = .ok (.iconst 0, 1) := by decide +kernel
theorem dX5_fewest_12 : decode cX5_fewest 12 = .ok (.iconst 1, 1) := by decide +kernel
theorem dX5_fewest_13 : decode cX5_fewest 13 = .ok (.invokestatic 46, 3) := by decide +kernel
theorem dX5_fewest_16 : decode cX5_fewest 16 = .ok (.ifCond .eq 12, 3) := by decide +kernel
theorem dX5_fewest_19 : decode cX5_fewest 19 = .ok (.aload_n 0, 1) := by decide +kernel
theorem dX5_fewest_20 : decode cX5_fewest 20 = .ok (.iload_n 1, 1) := by decide +kernel
theorem dX5_fewest_21 : decode cX5_fewest 21 = .ok (.iload_n 2, 1) := by decide +kernel
theorem dX5_fewest_22 : decode cX5_fewest 22 = .ok (.invokevirtual 148, 3) := by decide +kernel
theorem dX5_fewest_25 : decode cX5_fewest 25 = .ok (.goto 9, 3) := by decide +kernel
theorem dX5_fewest_28 : decode cX5_fewest 28 = .ok (.aload_n 0, 1) := by decide +kernel
theorem dX5_fewest_29 : decode cX5_fewest 29 = .ok (.ldc 37, 2) := by decide +kernel
theorem dX5_fewest_31 : decode cX5_fewest 31 = .ok (.invokevirtual 129, 3) := by decide +kernel
theorem dX5_fewest_34 : decode cX5_fewest 34 = .ok (.ireturn, 1) := by decide +kernel
set_option maxRecDepth 20000 in
theorem ggX5_most_X5_mostNow : GoodIn wsX5_most wsX5_mostNow := goodIn_r _ [5, 6, 7, 8, 9, 10, 4, 11, 12, 13, 14, 15, 16, 17, 18, 19, 20, 21, 22, 23, 24, 25, 26, 27, 28, 29, 30, 31, 32, 33, 34, 35, 36, 37, 38, 39, 40, 41, 42, 43, 44, 45, 46, 47, 48, 49, 50, 51, 52, 53, 54, 55, 56, 57] (by decide +kernel) (by decide +kernel)
set_option maxRecDepth 20000 in
theorem gX5_most_X5_mostNow : GoodIn wsX5_most (wsV RX5 151 RX5 yX5_mostNow wsX5_mostNow) := goodIn_app (goodIn_of _ (by decide +kernel)) ggX5_most_X5_mostNow
theorem dX5_most_0 : decode cX5_most 0 = .ok (.aload_n 0, 1) := by decide +kernel
theorem dX5_most_1 : decode cX5_most 1 = .ok (.invokevirtual 151, 3) := by decide +kernel
theorem dX5_most_4 : decode cX5_most 4 = .ok (.ireturn, 1) := by decide +kernel
set_option maxRecDepth 20000 in
theorem ggX5_countOf_X5_in : GoodIn wsX5_countOf wsX5_in := goodIn_r _ [5] (by decide +kernel) (by decide +kernel)
set_option maxRecDepth 20000 in
theorem gX5_countOf_X5_in : GoodIn wsX5_countOf (va_wsS RX5 46 yX5_in wsX5_in) := goodIn_app (goodIn_of _ (by decide +kernel)) ggX5_countOf_X5_in
set_option maxRecDepth 20000 in
theorem ggX5_countOf_X5_ofSpan : GoodIn wsX5_countOf wsX5_ofSpan := goodIn_r _ [9, 1, 17, 18, 19, 20, 21, 22, 23, 24, 25, 26, 27, 28, 29, 30, 31, 32] (by decide +kernel) (by decide +kernel)
set_option maxRecDepth 20000 in
theorem gX5_countOf_X5_ofSpan : GoodIn wsX5_countOf (wsV RX5 50 RX5 yX5_ofSpan wsX5_ofSpan) := goodIn_app (goodIn_of _ (by decide +kernel)) ggX5_countOf_X5_ofSpan
set_option maxRecDepth 20000 in
theorem ggX5_countOf_X5_lengthsOf : GoodIn wsX5_countOf wsX5_lengthsOf := goodIn_r _ [13, 6, 7, 8, 4, 9, 1, 17, 18, 19, 20, 21, 22, 23, 24, 25, 26, 27, 28, 29, 30, 31, 32] (by decide +kernel) (by decide +kernel)
set_option maxRecDepth 20000 in
theorem gX5_countOf_X5_lengthsOf : GoodIn wsX5_countOf (wsV RX5 103 RX5 yX5_lengthsOf wsX5_lengthsOf) := goodIn_app (goodIn_of _ (by decide +kernel)) ggX5_countOf_X5_lengthsOf
set_option maxRecDepth 20000 in
theorem ggX5_countOf_X5_ones : GoodIn wsX5_countOf wsX5_ones := goodIn_r _ [16] (by decide +kernel) (by decide +kernel)
set_option maxRecDepth 20000 in
theorem gX5_countOf_X5_ones : GoodIn wsX5_countOf (va_wsS RX5 89 yX5_ones wsX5_ones) := goodIn_app (goodIn_of _ (by decide +kernel)) ggX5_countOf_X5_ones
theorem dX5_countOf_0 : decode cX5_countOf 0 = .ok (.iload_n 1, 1) := by decide +kernel
theorem dX5_countOf_1 : decode cX5_countOf 1 = .ok (.iconst 4, 1) := by decide +kernel
theorem dX5_countOf_2 : decode cX5_countOf 2 = .ok (.bipush 9, 2) := by decide +kernel
theorem dX5_countOf_4 : decode cX5_countOf 4 = .ok (.invokestatic 46, 3) := by decide +kernel
theorem dX5_countOf_7 : decode cX5_countOf 7 = .ok (.ifCond .eq 14, 3) := by decide +kernel
theorem dX5_countOf_10 : decode cX5_countOf 10 = .ok (.aload_n 0, 1) := by decide +kernel
theorem dX5_countOf_11 : decode cX5_countOf 11 = .ok (.getfield 7, 3) := by decide +kernel
theorem dX5_countOf_14 : decode cX5_countOf 14 = .ok (.iconst 2, 1) := by decide +kernel
theorem dX5_countOf_15 : decode cX5_countOf 15 = .ok (.iload_n 1, 1) := by decide +kernel
theorem dX5_countOf_16 : decode cX5_countOf 16 = .ok (.iadd, 1) := by decide +kernel
theorem dX5_countOf_17 : decode cX5_countOf 17 = .ok (.iconst 4, 1) := by decide +kernel
theorem dX5_countOf_18 : decode cX5_countOf 18 = .ok (.isub, 1) := by decide +kernel
theorem dX5_countOf_19 : decode cX5_countOf 19 = .ok (.iaload, 1) := by decide +kernel
theorem dX5_countOf_20 : decode cX5_countOf 20 = .ok (.ireturn, 1) := by decide +kernel
theorem dX5_countOf_21 : decode cX5_countOf 21 = .ok (.iconst 0, 1) := by decide +kernel
theorem dX5_countOf_22 : decode cX5_countOf 22 = .ok (.istore_n 2, 1) := by decide +kernel
theorem dX5_countOf_23 : decode cX5_countOf 23 = .ok (.iconst 0, 1) := by decide +kernel
theorem dX5_countOf_24 : decode cX5_countOf 24 = .ok (.istore_n 3, 1) := by decide +kernel
theorem dX5_countOf_25 : decode cX5_countOf 25 = .ok (.iconst 0, 1) := by decide +kernel
theorem dX5_countOf_26 : decode cX5_countOf 26 = .ok (.istore 4, 2) := by decide +kernel
theorem dX5_countOf_28 : decode cX5_countOf 28 = .ok (.iload 4, 2) := by decide +kernel
theorem dX5_countOf_30 : decode cX5_countOf 30 = .ok (.aload_n 0, 1) := by decide +kernel
theorem dX5_countOf_31 : decode cX5_countOf 31 = .ok (.getfield 7, 3) := by decide +kernel
theorem dX5_countOf_34 : decode cX5_countOf 34 = .ok (.iconst 0, 1) := by decide +kernel
theorem dX5_countOf_35 : decode cX5_countOf 35 = .ok (.iaload, 1) := by decide +kernel
theorem dX5_countOf_36 : decode cX5_countOf 36 = .ok (.if_icmp .ge 28, 3) := by decide +kernel
theorem dX5_countOf_39 : decode cX5_countOf 39 = .ok (.iload_n 2, 1) := by decide +kernel
theorem dX5_countOf_40 : decode cX5_countOf 40 = .ok (.aload_n 0, 1) := by decide +kernel
theorem dX5_countOf_41 : decode cX5_countOf 41 = .ok (.iload 4, 2) := by decide +kernel
theorem dX5_countOf_43 : decode cX5_countOf 43 = .ok (.iconst 4, 1) := by decide +kernel
theorem dX5_countOf_44 : decode cX5_countOf 44 = .ok (.invokevirtual 50, 3) := by decide +kernel
theorem dX5_countOf_47 : decode cX5_countOf 47 = .ok (.iadd, 1) := by decide +kernel
theorem dX5_countOf_48 : decode cX5_countOf 48 = .ok (.istore_n 2, 1) := by decide +kernel
theorem dX5_countOf_49 : decode cX5_countOf 49 = .ok (.iload_n 3, 1) := by decide +kernel
theorem dX5_countOf_50 : decode cX5_countOf 50 = .ok (.aload_n 0, 1) := by decide +kernel
theorem dX5_countOf_51 : decode cX5_countOf 51 = .ok (.iload 4, 2) := by decide +kernel
theorem dX5_countOf_53 : decode cX5_countOf 53 = .ok (.invokevirtual 103, 3) := by decide +kernel
theorem dX5_countOf_56 : decode cX5_countOf 56 = .ok (.iadd, 1) := by decide +kernel
theorem dX5_countOf_57 : decode cX5_countOf 57 = .ok (.istore_n 3, 1) := by decide +kernel
theorem dX5_countOf_58 : decode cX5_countOf 58 = .ok (.iinc 4 1, 3) := by decide +kernel
theorem dX5_countOf_61 : decode cX5_countOf 61 = .ok (.goto (-33), 3) := by decide +kernel
theorem dX5_countOf_64 : decode cX5_countOf 64 = .ok (.iload_n 1, 1) := by decide +kernel
theorem dX5_countOf_65 : decode cX5_countOf 65 = .ok (.ifCond .ne 15, 3) := by decide +kernel
theorem dX5_countOf_68 : decode cX5_countOf 68 = .ok (.aload_n 0, 1) := by decide +kernel
theorem dX5_countOf_69 : decode cX5_countOf 69 = .ok (.getfield 7, 3) := by decide +kernel
theorem dX5_countOf_72 : decode cX5_countOf 72 = .ok (.iconst 1, 1) := by decide +kernel
theorem dX5_countOf_73 : decode cX5_countOf 73 = .ok (.iaload, 1) := by decide +kernel
theorem dX5_countOf_74 : decode cX5_countOf 74 = .ok (.invokestatic 89, 3) := by decide +kernel
theorem dX5_countOf_77 : decode cX5_countOf 77 = .ok (.goto 41, 3) := by decide +kernel
theorem dX5_countOf_80 : decode cX5_countOf 80 = .ok (.iload_n 1, 1) := by decide +kernel
theorem dX5_countOf_81 : decode cX5_countOf 81 = .ok (.iconst 1, 1) := by decide +kernel
theorem dX5_countOf_82 : decode cX5_countOf 82 = .ok (.if_icmp .ne 12, 3) := by decide +kernel
theorem dX5_countOf_85 : decode cX5_countOf 85 = .ok (.aload_n 0, 1) := by decide +kernel
theorem dX5_countOf_86 : decode cX5_countOf 86 = .ok (.getfield 7, 3) := by decide +kernel
theorem dX5_countOf_89 : decode cX5_countOf 89 = .ok (.iconst 1, 1) := by decide +kernel
theorem dX5_countOf_90 : decode cX5_countOf 90 = .ok (.iaload, 1) := by decide +kernel
theorem dX5_countOf_91 : decode cX5_countOf 91 = .ok (.goto 27, 3) := by decide +kernel
theorem dX5_countOf_94 : decode cX5_countOf 94 = .ok (.iload_n 1, 1) := by decide +kernel
theorem dX5_countOf_95 : decode cX5_countOf 95 = .ok (.iconst 2, 1) := by decide +kernel
theorem dX5_countOf_96 : decode cX5_countOf 96 = .ok (.if_icmp .ne 12, 3) := by decide +kernel
theorem dX5_countOf_99 : decode cX5_countOf 99 = .ok (.aload_n 0, 1) := by decide +kernel
theorem dX5_countOf_100 : decode cX5_countOf 100 = .ok (.getfield 7, 3) := by decide +kernel
theorem dX5_countOf_103 : decode cX5_countOf 103 = .ok (.iconst 0, 1) := by decide +kernel
theorem dX5_countOf_104 : decode cX5_countOf 104 = .ok (.iaload, 1) := by decide +kernel
theorem dX5_countOf_105 : decode cX5_countOf 105 = .ok (.goto 13, 3) := by decide +kernel
theorem dX5_countOf_108 : decode cX5_countOf 108 = .ok (.iload_n 1, 1) := by decide +kernel
theorem dX5_countOf_109 : decode cX5_countOf 109 = .ok (.iconst 3, 1) := by decide +kernel
theorem dX5_countOf_110 : decode cX5_countOf 110 = .ok (.if_icmp .ne 7, 3) := by decide +kernel
theorem dX5_countOf_113 : decode cX5_countOf 113 = .ok (.iload_n 2, 1) := by decide +kernel
theorem dX5_countOf_114 : decode cX5_countOf 114 = .ok (.goto 4, 3) := by decide +kernel
theorem dX5_countOf_117 : decode cX5_countOf 117 = .ok (.iload_n 3, 1) := by decide +kernel
theorem dX5_countOf_118 : decode cX5_countOf 118 = .ok (.ireturn, 1) := by decide +kernel
set_option maxRecDepth 20000 in
theorem ggX5_count_X5_in : GoodIn wsX5_count wsX5_in := goodIn_r _ [5] (by decide +kernel) (by decide +kernel)
set_option maxRecDepth 20000 in
theorem gX5_count_X5_in : GoodIn wsX5_count (va_wsS RX5 46 yX5_in wsX5_in) := goodIn_app (goodIn_of _ (by decide +kernel)) ggX5_count_X5_in
set_option maxRecDepth 20000 in
theorem ggX5_count_X5_countOf : GoodIn wsX5_count wsX5_countOf := goodIn_r _ [9, 10, 2, 3, 4, 5, 11, 12, 13, 14, 15, 16, 17, 18, 19, 20, 21, 27, 28, 29, 30, 31, 32, 33, 34, 35, 36, 37, 38, 39, 40, 41, 42] (by decide +kernel) (by decide +kernel)
set_option maxRecDepth 20000 in
theorem gX5_count_X5_countOf : GoodIn wsX5_count (wsV RX5 154 RX5 yX5_countOf wsX5_countOf) := goodIn_app (goodIn_of _ (by decide +kernel)) ggX5_count_X5_countOf
set_option maxRecDepth 20000 in
theorem ggX5_count_X5_refuse : GoodIn wsX5_count wsX5_refuse := goodIn_r _ [25, 26, 1, 27, 28, 29, 30, 31, 32, 33, 34, 35, 36, 37, 38, 39, 40, 41, 42] (by decide +kernel) (by decide +kernel)
set_option maxRecDepth 20000 in
theorem gX5_count_X5_refuse : GoodIn wsX5_count (wsV RX5 129 RX5 yX5_refuse wsX5_refuse) := goodIn_app (goodIn_of _ (by decide +kernel)) ggX5_count_X5_refuse
theorem dX5_count_0 : decode cX5_count 0 = .ok (.iload_n 1, 1) := by decide +kernel
theorem dX5_count_1 : decode cX5_count 1 = .ok (.iconst 0, 1) := by decide +kernel
theorem dX5_count_2 : decode cX5_count 2 = .ok (.bipush 10, 2) := by decide +kernel
theorem dX5_count_4 : decode cX5_count 4 = .ok (.invokestatic 46, 3) := by decide +kernel
theorem dX5_count_7 : decode cX5_count 7 = .ok (.ifCond .eq 11, 3) := by decide +kernel
theorem dX5_count_10 : decode cX5_count 10 = .ok (.aload_n 0, 1) := by decide +kernel
theorem dX5_count_11 : decode cX5_count 11 = .ok (.iload_n 1, 1) := by decide +kernel
theorem dX5_count_12 : decode cX5_count 12 = .ok (.invokevirtual 154, 3) := by decide +kernel
theorem dX5_count_15 : decode cX5_count 15 = .ok (.goto 9, 3) := by decide +kernel
theorem dX5_count_18 : decode cX5_count 18 = .ok (.aload_n 0, 1) := by decide +kernel
theorem dX5_count_19 : decode cX5_count 19 = .ok (.ldc 37, 2) := by decide +kernel
theorem dX5_count_21 : decode cX5_count 21 = .ok (.invokevirtual 129, 3) := by decide +kernel
theorem dX5_count_24 : decode cX5_count 24 = .ok (.ireturn, 1) := by decide +kernel
set_option maxRecDepth 20000 in
theorem ggX5_areTimes_X5_in : GoodIn wsX5_areTimes wsX5_in := goodIn_r _ [4] (by decide +kernel) (by decide +kernel)
set_option maxRecDepth 20000 in
theorem gX5_areTimes_X5_in : GoodIn wsX5_areTimes (va_wsS RX5 46 yX5_in wsX5_in) := goodIn_app (goodIn_of _ (by decide +kernel)) ggX5_areTimes_X5_in
theorem dX5_areTimes_0 : decode cX5_areTimes 0 = .ok (.iload_n 0, 1) := by decide +kernel
theorem dX5_areTimes_1 : decode cX5_areTimes 1 = .ok (.iconst 1, 1) := by decide +kernel
theorem dX5_areTimes_2 : decode cX5_areTimes 2 = .ok (.bipush 99, 2) := by decide +kernel
theorem dX5_areTimes_4 : decode cX5_areTimes 4 = .ok (.invokestatic 46, 3) := by decide +kernel
theorem dX5_areTimes_7 : decode cX5_areTimes 7 = .ok (.ifCond .eq 37, 3) := by decide +kernel
theorem dX5_areTimes_10 : decode cX5_areTimes 10 = .ok (.iload_n 1, 1) := by decide +kernel
theorem dX5_areTimes_11 : decode cX5_areTimes 11 = .ok (.iconst 1, 1) := by decide +kernel
theorem dX5_areTimes_12 : decode cX5_areTimes 12 = .ok (.bipush 99, 2) := by decide +kernel
theorem dX5_areTimes_14 : decode cX5_areTimes 14 = .ok (.invokestatic 46, 3) := by decide +kernel
theorem dX5_areTimes_17 : decode cX5_areTimes 17 = .ok (.ifCond .eq 27, 3) := by decide +kernel
theorem dX5_areTimes_20 : decode cX5_areTimes 20 = .ok (.iload_n 2, 1) := by decide +kernel
theorem dX5_areTimes_21 : decode cX5_areTimes 21 = .ok (.iconst 1, 1) := by decide +kernel
theorem dX5_areTimes_22 : decode cX5_areTimes 22 = .ok (.bipush 99, 2) := by decide +kernel
theorem dX5_areTimes_24 : decode cX5_areTimes 24 = .ok (.invokestatic 46, 3) := by decide +kernel
theorem dX5_areTimes_27 : decode cX5_areTimes 27 = .ok (.ifCond .eq 17, 3) := by decide +kernel
theorem dX5_areTimes_30 : decode cX5_areTimes 30 = .ok (.iload_n 3, 1) := by decide +kernel
theorem dX5_areTimes_31 : decode cX5_areTimes 31 = .ok (.iconst 1, 1) := by decide +kernel
theorem dX5_areTimes_32 : decode cX5_areTimes 32 = .ok (.bipush 99, 2) := by decide +kernel
theorem dX5_areTimes_34 : decode cX5_areTimes 34 = .ok (.invokestatic 46, 3) := by decide +kernel
theorem dX5_areTimes_37 : decode cX5_areTimes 37 = .ok (.ifCond .eq 7, 3) := by decide +kernel
theorem dX5_areTimes_40 : decode cX5_areTimes 40 = .ok (.iconst 1, 1) := by decide +kernel
theorem dX5_areTimes_41 : decode cX5_areTimes 41 = .ok (.goto 4, 3) := by decide +kernel
theorem dX5_areTimes_44 : decode cX5_areTimes 44 = .ok (.iconst 0, 1) := by decide +kernel
theorem dX5_areTimes_45 : decode cX5_areTimes 45 = .ok (.ireturn, 1) := by decide +kernel
theorem dX5_bringsBy_0 : decode cX5_bringsBy 0 = .ok (.bipush 60, 2) := by decide +kernel
theorem dX5_bringsBy_2 : decode cX5_bringsBy 2 = .ok (.iload_n 0, 1) := by decide +kernel
theorem dX5_bringsBy_3 : decode cX5_bringsBy 3 = .ok (.imul, 1) := by decide +kernel
theorem dX5_bringsBy_4 : decode cX5_bringsBy 4 = .ok (.iload_n 1, 1) := by decide +kernel
theorem dX5_bringsBy_5 : decode cX5_bringsBy 5 = .ok (.imul, 1) := by decide +kernel
theorem dX5_bringsBy_6 : decode cX5_bringsBy 6 = .ok (.iload_n 3, 1) := by decide +kernel
theorem dX5_bringsBy_7 : decode cX5_bringsBy 7 = .ok (.idiv, 1) := by decide +kernel
theorem dX5_bringsBy_8 : decode cX5_bringsBy 8 = .ok (.istore 4, 2) := by decide +kernel
theorem dX5_bringsBy_10 : decode cX5_bringsBy 10 = .ok (.bipush 60, 2) := by decide +kernel
theorem dX5_bringsBy_12 : decode cX5_bringsBy 12 = .ok (.iload_n 1, 1) := by decide +kernel
theorem dX5_bringsBy_13 : decode cX5_bringsBy 13 = .ok (.imul, 1) := by decide +kernel
theorem dX5_bringsBy_14 : decode cX5_bringsBy 14 = .ok (.iload_n 2, 1) := by decide +kernel
theorem dX5_bringsBy_15 : decode cX5_bringsBy 15 = .ok (.idiv, 1) := by decide +kernel
theorem dX5_bringsBy_16 : decode cX5_bringsBy 16 = .ok (.istore 5, 2) := by decide +kernel
theorem dX5_bringsBy_18 : decode cX5_bringsBy 18 = .ok (.iload 4, 2) := by decide +kernel
theorem dX5_bringsBy_20 : decode cX5_bringsBy 20 = .ok (.iload 5, 2) := by decide +kernel
theorem dX5_bringsBy_22 : decode cX5_bringsBy 22 = .ok (.if_icmp .ge 8, 3) := by decide +kernel
theorem dX5_bringsBy_25 : decode cX5_bringsBy 25 = .ok (.iload 4, 2) := by decide +kernel
theorem dX5_bringsBy_27 : decode cX5_bringsBy 27 = .ok (.goto 5, 3) := by decide +kernel
theorem dX5_bringsBy_30 : decode cX5_bringsBy 30 = .ok (.iload 5, 2) := by decide +kernel
theorem dX5_bringsBy_32 : decode cX5_bringsBy 32 = .ok (.ireturn, 1) := by decide +kernel
set_option maxRecDepth 20000 in
theorem ggX5_shuttle_X5_in : GoodIn wsX5_shuttle wsX5_in := goodIn_r _ [5] (by decide +kernel) (by decide +kernel)
set_option maxRecDepth 20000 in
theorem gX5_shuttle_X5_in : GoodIn wsX5_shuttle (va_wsS RX5 46 yX5_in wsX5_in) := goodIn_app (goodIn_of _ (by decide +kernel)) ggX5_shuttle_X5_in
set_option maxRecDepth 20000 in
theorem ggX5_shuttle_X5_areTimes : GoodIn wsX5_shuttle wsX5_areTimes := goodIn_r _ [8, 2, 3, 4, 5] (by decide +kernel) (by decide +kernel)
set_option maxRecDepth 20000 in
theorem gX5_shuttle_X5_areTimes : GoodIn wsX5_shuttle (va_wsS RX5 157 yX5_areTimes wsX5_areTimes) := goodIn_app (goodIn_of _ (by decide +kernel)) ggX5_shuttle_X5_areTimes
set_option maxRecDepth 20000 in
theorem ggX5_shuttle_X5_bringsBy : GoodIn wsX5_shuttle wsX5_bringsBy := goodIn_r _ [11] (by decide +kernel) (by decide +kernel)
set_option maxRecDepth 20000 in
theorem gX5_shuttle_X5_bringsBy : GoodIn wsX5_shuttle (va_wsS RX5 161 yX5_bringsBy wsX5_bringsBy) := goodIn_app (goodIn_of _ (by decide +kernel)) ggX5_shuttle_X5_bringsBy
set_option maxRecDepth 20000 in
theorem ggX5_shuttle_X5_refuse : GoodIn wsX5_shuttle wsX5_refuse := goodIn_r _ [15, 16, 1, 17, 18, 19, 20, 21, 22, 23, 24, 25, 26, 27, 28, 29, 30, 31, 32] (by decide +kernel) (by decide +kernel)
set_option maxRecDepth 20000 in
theorem gX5_shuttle_X5_refuse : GoodIn wsX5_shuttle (wsV RX5 129 RX5 yX5_refuse wsX5_refuse) := goodIn_app (goodIn_of _ (by decide +kernel)) ggX5_shuttle_X5_refuse
theorem dX5_shuttle_0 : decode cX5_shuttle 0 = .ok (.iload_n 1, 1) := by decide +kernel
theorem dX5_shuttle_1 : decode cX5_shuttle 1 = .ok (.iconst 1, 1) := by decide +kernel
theorem dX5_shuttle_2 : decode cX5_shuttle 2 = .ok (.bipush 20, 2) := by decide +kernel
theorem dX5_shuttle_4 : decode cX5_shuttle 4 = .ok (.invokestatic 46, 3) := by decide +kernel
theorem dX5_shuttle_7 : decode cX5_shuttle 7 = .ok (.ifCond .eq 33, 3) := by decide +kernel
theorem dX5_shuttle_10 : decode cX5_shuttle 10 = .ok (.iload_n 2, 1) := by decide +kernel
theorem dX5_shuttle_11 : decode cX5_shuttle 11 = .ok (.iload_n 3, 1) := by decide +kernel
theorem dX5_shuttle_12 : decode cX5_shuttle 12 = .ok (.iload 4, 2) := by decide +kernel
theorem dX5_shuttle_14 : decode cX5_shuttle 14 = .ok (.iload 5, 2) := by decide +kernel
theorem dX5_shuttle_16 : decode cX5_shuttle 16 = .ok (.invokestatic 157, 3) := by decide +kernel
theorem dX5_shuttle_19 : decode cX5_shuttle 19 = .ok (.ifCond .eq 21, 3) := by decide +kernel
theorem dX5_shuttle_22 : decode cX5_shuttle 22 = .ok (.iload_n 1, 1) := by decide +kernel
theorem dX5_shuttle_23 : decode cX5_shuttle 23 = .ok (.iload_n 2, 1) := by decide +kernel
theorem dX5_shuttle_24 : decode cX5_shuttle 24 = .ok (.iload_n 3, 1) := by decide +kernel
theorem dX5_shuttle_25 : decode cX5_shuttle 25 = .ok (.iload_n 3, 1) := by decide +kernel
theorem dX5_shuttle_26 : decode cX5_shuttle 26 = .ok (.iconst 2, 1) := by decide +kernel
theorem dX5_shuttle_27 : decode cX5_shuttle 27 = .ok (.iload 4, 2) := by decide +kernel
theorem dX5_shuttle_29 : decode cX5_shuttle 29 = .ok (.imul, 1) := by decide +kernel
theorem dX5_shuttle_30 : decode cX5_shuttle 30 = .ok (.iadd, 1) := by decide +kernel
theorem dX5_shuttle_31 : decode cX5_shuttle 31 = .ok (.iload 5, 2) := by decide +kernel
theorem dX5_shuttle_33 : decode cX5_shuttle 33 = .ok (.iadd, 1) := by decide +kernel
theorem dX5_shuttle_34 : decode cX5_shuttle 34 = .ok (.invokestatic 161, 3) := by decide +kernel
theorem dX5_shuttle_37 : decode cX5_shuttle 37 = .ok (.goto 9, 3) := by decide +kernel
theorem dX5_shuttle_40 : decode cX5_shuttle 40 = .ok (.aload_n 0, 1) := by decide +kernel
theorem dX5_shuttle_41 : decode cX5_shuttle 41 = .ok (.ldc 37, 2) := by decide +kernel
theorem dX5_shuttle_43 : decode cX5_shuttle 43 = .ok (.invokevirtual 129, 3) := by decide +kernel
theorem dX5_shuttle_46 : decode cX5_shuttle 46 = .ok (.ireturn, 1) := by decide +kernel
set_option maxRecDepth 20000 in
theorem ggX5_tanks_X5_in : GoodIn wsX5_tanks wsX5_in := goodIn_r _ [6] (by decide +kernel) (by decide +kernel)
set_option maxRecDepth 20000 in
theorem gX5_tanks_X5_in : GoodIn wsX5_tanks (va_wsS RX5 46 yX5_in wsX5_in) := goodIn_app (goodIn_of _ (by decide +kernel)) ggX5_tanks_X5_in
set_option maxRecDepth 20000 in
theorem ggX5_tanks_X5_areTimes : GoodIn wsX5_tanks wsX5_areTimes := goodIn_r _ [9, 3, 4, 5, 6] (by decide +kernel) (by decide +kernel)
set_option maxRecDepth 20000 in
theorem gX5_tanks_X5_areTimes : GoodIn wsX5_tanks (va_wsS RX5 157 yX5_areTimes wsX5_areTimes) := goodIn_app (goodIn_of _ (by decide +kernel)) ggX5_tanks_X5_areTimes
set_option maxRecDepth 20000 in
theorem ggX5_tanks_X5_refuse : GoodIn wsX5_tanks wsX5_refuse := goodIn_r _ [13, 14, 1, 18, 19, 20, 21, 22, 23, 24, 25, 26, 27, 28, 29, 30, 31, 32, 33] (by decide +kernel) (by decide +kernel)
set_option maxRecDepth 20000 in
theorem gX5_tanks_X5_refuse : GoodIn wsX5_tanks (wsV RX5 129 RX5 yX5_refuse wsX5_refuse) := goodIn_app (goodIn_of _ (by decide +kernel)) ggX5_tanks_X5_refuse
set_option maxRecDepth 20000 in
theorem ggX5_tanks_X5_bringsBy : GoodIn wsX5_tanks wsX5_bringsBy := goodIn_r _ [17] (by decide +kernel) (by decide +kernel)
set_option maxRecDepth 20000 in
theorem gX5_tanks_X5_bringsBy : GoodIn wsX5_tanks (va_wsS RX5 161 yX5_bringsBy wsX5_bringsBy) := goodIn_app (goodIn_of _ (by decide +kernel)) ggX5_tanks_X5_bringsBy
theorem dX5_tanks_0 : decode cX5_tanks 0 = .ok (.iload_n 1, 1) := by decide +kernel
theorem dX5_tanks_1 : decode cX5_tanks 1 = .ok (.iconst 1, 1) := by decide +kernel
theorem dX5_tanks_2 : decode cX5_tanks 2 = .ok (.sipush 9999, 3) := by decide +kernel
theorem dX5_tanks_5 : decode cX5_tanks 5 = .ok (.invokestatic 46, 3) := by decide +kernel
theorem dX5_tanks_8 : decode cX5_tanks 8 = .ok (.ifCond .eq 15, 3) := by decide +kernel
theorem dX5_tanks_11 : decode cX5_tanks 11 = .ok (.iload_n 2, 1) := by decide +kernel
theorem dX5_tanks_12 : decode cX5_tanks 12 = .ok (.iload_n 3, 1) := by decide +kernel
theorem dX5_tanks_13 : decode cX5_tanks 13 = .ok (.iload 4, 2) := by decide +kernel
theorem dX5_tanks_15 : decode cX5_tanks 15 = .ok (.iload 5, 2) := by decide +kernel
theorem dX5_tanks_17 : decode cX5_tanks 17 = .ok (.invokestatic 157, 3) := by decide +kernel
theorem dX5_tanks_20 : decode cX5_tanks 20 = .ok (.ifCond .ne 10, 3) := by decide +kernel
theorem dX5_tanks_23 : decode cX5_tanks 23 = .ok (.aload_n 0, 1) := by decide +kernel
theorem dX5_tanks_24 : decode cX5_tanks 24 = .ok (.ldc 37, 2) := by decide +kernel
theorem dX5_tanks_26 : decode cX5_tanks 26 = .ok (.invokevirtual 129, 3) := by decide +kernel
theorem dX5_tanks_29 : decode cX5_tanks 29 = .ok (.ireturn, 1) := by decide +kernel
theorem dX5_tanks_30 : decode cX5_tanks 30 = .ok (.iconst 1, 1) := by decide +kernel
theorem dX5_tanks_31 : decode cX5_tanks 31 = .ok (.istore 6, 2) := by decide +kernel
theorem dX5_tanks_33 : decode cX5_tanks 33 = .ok (.iload 6, 2) := by decide +kernel
theorem dX5_tanks_35 : decode cX5_tanks 35 = .ok (.bipush 20, 2) := by decide +kernel
theorem dX5_tanks_37 : decode cX5_tanks 37 = .ok (.if_icmp .gt 32, 3) := by decide +kernel
theorem dX5_tanks_40 : decode cX5_tanks 40 = .ok (.iload 6, 2) := by decide +kernel
theorem dX5_tanks_42 : decode cX5_tanks 42 = .ok (.iload_n 2, 1) := by decide +kernel
theorem dX5_tanks_43 : decode cX5_tanks 43 = .ok (.iload_n 3, 1) := by decide +kernel
theorem dX5_tanks_44 : decode cX5_tanks 44 = .ok (.iload_n 3, 1) := by decide +kernel
theorem dX5_tanks_45 : decode cX5_tanks 45 = .ok (.iconst 2, 1) := by decide +kernel
theorem dX5_tanks_46 : decode cX5_tanks 46 = .ok (.iload 4, 2) := by decide +kernel
theorem dX5_tanks_48 : decode cX5_tanks 48 = .ok (.imul, 1) := by decide +kernel
theorem dX5_tanks_49 : decode cX5_tanks 49 = .ok (.iadd, 1) := by decide +kernel
theorem dX5_tanks_50 : decode cX5_tanks 50 = .ok (.iload 5, 2) := by decide +kernel
theorem dX5_tanks_52 : decode cX5_tanks 52 = .ok (.iadd, 1) := by decide +kernel
theorem dX5_tanks_53 : decode cX5_tanks 53 = .ok (.invokestatic 161, 3) := by decide +kernel
theorem dX5_tanks_56 : decode cX5_tanks 56 = .ok (.iload_n 1, 1) := by decide +kernel
theorem dX5_tanks_57 : decode cX5_tanks 57 = .ok (.if_icmp .lt 6, 3) := by decide +kernel
theorem dX5_tanks_60 : decode cX5_tanks 60 = .ok (.iload 6, 2) := by decide +kernel
theorem dX5_tanks_62 : decode cX5_tanks 62 = .ok (.ireturn, 1) := by decide +kernel
theorem dX5_tanks_63 : decode cX5_tanks 63 = .ok (.iinc 6 1, 3) := by decide +kernel
theorem dX5_tanks_66 : decode cX5_tanks 66 = .ok (.goto (-33), 3) := by decide +kernel
theorem dX5_tanks_69 : decode cX5_tanks 69 = .ok (.ldc 74, 2) := by decide +kernel
theorem dX5_tanks_71 : decode cX5_tanks 71 = .ok (.ireturn, 1) := by decide +kernel
set_option maxRecDepth 20000 in
theorem ggX5_type_X5_in : GoodIn wsX5_type wsX5_in := goodIn_r _ [8] (by decide +kernel) (by decide +kernel)
set_option maxRecDepth 20000 in
theorem gX5_type_X5_in : GoodIn wsX5_type (va_wsS RX5 46 yX5_in wsX5_in) := goodIn_app (goodIn_of _ (by decide +kernel)) ggX5_type_X5_in
set_option maxRecDepth 20000 in
theorem ggX5_type_X5_refuse : GoodIn wsX5_type wsX5_refuse := goodIn_r _ [12, 13, 1, 14, 15, 16, 17, 18, 19, 20, 21, 22, 23, 24, 25, 26, 27, 28, 29] (by decide +kernel) (by decide +kernel)
set_option maxRecDepth 20000 in
theorem gX5_type_X5_refuse : GoodIn wsX5_type (wsV RX5 129 RX5 yX5_refuse wsX5_refuse) := goodIn_app (goodIn_of _ (by decide +kernel)) ggX5_type_X5_refuse
theorem dX5_type_0 : decode cX5_type 0 = .ok (.iload_n 1, 1) := by decide +kernel
theorem dX5_type_1 : decode cX5_type 1 = .ok (.iconst 0, 1) := by decide +kernel
theorem dX5_type_2 : decode cX5_type 2 = .ok (.bipush 127, 2) := by decide +kernel
theorem dX5_type_4 : decode cX5_type 4 = .ok (.invokestatic 46, 3) := by decide +kernel
theorem dX5_type_7 : decode cX5_type 7 = .ok (.ifCond .ne 10, 3) := by decide +kernel
theorem dX5_type_10 : decode cX5_type 10 = .ok (.aload_n 0, 1) := by decide +kernel
theorem dX5_type_11 : decode cX5_type 11 = .ok (.ldc 37, 2) := by decide +kernel
theorem dX5_type_13 : decode cX5_type 13 = .ok (.invokevirtual 129, 3) := by decide +kernel
theorem dX5_type_16 : decode cX5_type 16 = .ok (.ireturn, 1) := by decide +kernel
theorem dX5_type_17 : decode cX5_type 17 = .ok (.aload_n 0, 1) := by decide +kernel
theorem dX5_type_18 : decode cX5_type 18 = .ok (.getfield 165, 3) := by decide +kernel
theorem dX5_type_21 : decode cX5_type 21 = .ok (.bipush 120, 2) := by decide +kernel
theorem dX5_type_23 : decode cX5_type 23 = .ok (.if_icmp .ne 10, 3) := by decide +kernel
theorem dX5_type_26 : decode cX5_type 26 = .ok (.aload_n 0, 1) := by decide +kernel
theorem dX5_type_27 : decode cX5_type 27 = .ok (.ldc 99, 2) := by decide +kernel
theorem dX5_type_29 : decode cX5_type 29 = .ok (.invokevirtual 129, 3) := by decide +kernel
theorem dX5_type_32 : decode cX5_type 32 = .ok (.ireturn, 1) := by decide +kernel
theorem dX5_type_33 : decode cX5_type 33 = .ok (.aload_n 0, 1) := by decide +kernel
theorem dX5_type_34 : decode cX5_type 34 = .ok (.getfield 22, 3) := by decide +kernel
theorem dX5_type_37 : decode cX5_type 37 = .ok (.aload_n 0, 1) := by decide +kernel
theorem dX5_type_38 : decode cX5_type 38 = .ok (.getfield 165, 3) := by decide +kernel
theorem dX5_type_41 : decode cX5_type 41 = .ok (.iload_n 1, 1) := by decide +kernel
theorem dX5_type_42 : decode cX5_type 42 = .ok (.iastore, 1) := by decide +kernel
theorem dX5_type_43 : decode cX5_type 43 = .ok (.aload_n 0, 1) := by decide +kernel
theorem dX5_type_44 : decode cX5_type 44 = .ok (.dup, 1) := by decide +kernel
theorem dX5_type_45 : decode cX5_type 45 = .ok (.getfield 165, 3) := by decide +kernel
theorem dX5_type_48 : decode cX5_type 48 = .ok (.iconst 1, 1) := by decide +kernel
theorem dX5_type_49 : decode cX5_type 49 = .ok (.iadd, 1) := by decide +kernel
theorem dX5_type_50 : decode cX5_type 50 = .ok (.putfield 165, 3) := by decide +kernel
theorem dX5_type_53 : decode cX5_type 53 = .ok (.aload_n 0, 1) := by decide +kernel
theorem dX5_type_54 : decode cX5_type 54 = .ok (.getfield 165, 3) := by decide +kernel
theorem dX5_type_57 : decode cX5_type 57 = .ok (.ireturn, 1) := by decide +kernel
theorem dX5_clear_0 : decode cX5_clear 0 = .ok (.aload_n 0, 1) := by decide +kernel
theorem dX5_clear_1 : decode cX5_clear 1 = .ok (.getfield 165, 3) := by decide +kernel
theorem dX5_clear_4 : decode cX5_clear 4 = .ok (.istore_n 1, 1) := by decide +kernel
theorem dX5_clear_5 : decode cX5_clear 5 = .ok (.aload_n 0, 1) := by decide +kernel
theorem dX5_clear_6 : decode cX5_clear 6 = .ok (.iconst 0, 1) := by decide +kernel
theorem dX5_clear_7 : decode cX5_clear 7 = .ok (.putfield 165, 3) := by decide +kernel
theorem dX5_clear_10 : decode cX5_clear 10 = .ok (.iload_n 1, 1) := by decide +kernel
theorem dX5_clear_11 : decode cX5_clear 11 = .ok (.ireturn, 1) := by decide +kernel
theorem dX5_skip_0 : decode cX5_skip 0 = .ok (.aload_n 0, 1) := by decide +kernel
theorem dX5_skip_1 : decode cX5_skip 1 = .ok (.getfield 168, 3) := by decide +kernel
theorem dX5_skip_4 : decode cX5_skip 4 = .ok (.aload_n 0, 1) := by decide +kernel
theorem dX5_skip_5 : decode cX5_skip 5 = .ok (.getfield 165, 3) := by decide +kernel
theorem dX5_skip_8 : decode cX5_skip 8 = .ok (.if_icmp .ge 30, 3) := by decide +kernel
theorem dX5_skip_11 : decode cX5_skip 11 = .ok (.aload_n 0, 1) := by decide +kernel
theorem dX5_skip_12 : decode cX5_skip 12 = .ok (.getfield 22, 3) := by decide +kernel
theorem dX5_skip_15 : decode cX5_skip 15 = .ok (.aload_n 0, 1) := by decide +kernel
theorem dX5_skip_16 : decode cX5_skip 16 = .ok (.getfield 168, 3) := by decide +kernel
theorem dX5_skip_19 : decode cX5_skip 19 = .ok (.iaload, 1) := by decide +kernel
theorem dX5_skip_20 : decode cX5_skip 20 = .ok (.bipush 32, 2) := by decide +kernel
theorem dX5_skip_22 : decode cX5_skip 22 = .ok (.if_icmp .ne 16, 3) := by decide +kernel
theorem dX5_skip_25 : decode cX5_skip 25 = .ok (.aload_n 0, 1) := by decide +kernel
theorem dX5_skip_26 : decode cX5_skip 26 = .ok (.dup, 1) := by decide +kernel
theorem dX5_skip_27 : decode cX5_skip 27 = .ok (.getfield 168, 3) := by decide +kernel
theorem dX5_skip_30 : decode cX5_skip 30 = .ok (.iconst 1, 1) := by decide +kernel
theorem dX5_skip_31 : decode cX5_skip 31 = .ok (.iadd, 1) := by decide +kernel
theorem dX5_skip_32 : decode cX5_skip 32 = .ok (.putfield 168, 3) := by decide +kernel
theorem dX5_skip_35 : decode cX5_skip 35 = .ok (.goto (-35), 3) := by decide +kernel
theorem dX5_skip_38 : decode cX5_skip 38 = .ok (.return_, 1) := by decide +kernel
set_option maxRecDepth 20000 in
theorem ggX5_isFigure_X5_in : GoodIn wsX5_isFigure wsX5_in := goodIn_r _ [7] (by decide +kernel) (by decide +kernel)
set_option maxRecDepth 20000 in
theorem gX5_isFigure_X5_in : GoodIn wsX5_isFigure (va_wsS RX5 46 yX5_in wsX5_in) := goodIn_app (goodIn_of _ (by decide +kernel)) ggX5_isFigure_X5_in
theorem dX5_isFigure_0 : decode cX5_isFigure 0 = .ok (.aload_n 0, 1) := by decide +kernel
theorem dX5_isFigure_1 : decode cX5_isFigure 1 = .ok (.getfield 168, 3) := by decide +kernel
theorem dX5_isFigure_4 : decode cX5_isFigure 4 = .ok (.aload_n 0, 1) := by decide +kernel
theorem dX5_isFigure_5 : decode cX5_isFigure 5 = .ok (.getfield 165, 3) := by decide +kernel
theorem dX5_isFigure_8 : decode cX5_isFigure 8 = .ok (.if_icmp .ge 26, 3) := by decide +kernel
theorem dX5_isFigure_11 : decode cX5_isFigure 11 = .ok (.aload_n 0, 1) := by decide +kernel
theorem dX5_isFigure_12 : decode cX5_isFigure 12 = .ok (.getfield 22, 3) := by decide +kernel
theorem dX5_isFigure_15 : decode cX5_isFigure 15 = .ok (.aload_n 0, 1) := by decide +kernel
theorem dX5_isFigure_16 : decode cX5_isFigure 16 = .ok (.getfield 168, 3) := by decide +kernel
theorem dX5_isFigure_19 : decode cX5_isFigure 19 = .ok (.iaload, 1) := by decide +kernel
theorem dX5_isFigure_20 : decode cX5_isFigure 20 = .ok (.bipush 48, 2) := by decide +kernel
theorem dX5_isFigure_22 : decode cX5_isFigure 22 = .ok (.bipush 57, 2) := by decide +kernel
theorem dX5_isFigure_24 : decode cX5_isFigure 24 = .ok (.invokestatic 46, 3) := by decide +kernel
theorem dX5_isFigure_27 : decode cX5_isFigure 27 = .ok (.ifCond .eq 7, 3) := by decide +kernel
theorem dX5_isFigure_30 : decode cX5_isFigure 30 = .ok (.iconst 1, 1) := by decide +kernel
theorem dX5_isFigure_31 : decode cX5_isFigure 31 = .ok (.goto 4, 3) := by decide +kernel
theorem dX5_isFigure_34 : decode cX5_isFigure 34 = .ok (.iconst 0, 1) := by decide +kernel
theorem dX5_isFigure_35 : decode cX5_isFigure 35 = .ok (.ireturn, 1) := by decide +kernel
set_option maxRecDepth 20000 in
theorem ggX5_readNumber_X5_skip : GoodIn wsX5_readNumber wsX5_skip := goodIn_r _ [9, 1, 2, 3, 17, 18, 19, 20, 21, 22, 23, 24, 25, 26, 27, 28, 29, 30, 31, 32] (by decide +kernel) (by decide +kernel)
set_option maxRecDepth 20000 in
theorem gX5_readNumber_X5_skip : GoodIn wsX5_readNumber (wsV RX5 171 RX5 yX5_skip wsX5_skip) := goodIn_app (goodIn_of _ (by decide +kernel)) ggX5_readNumber_X5_skip
set_option maxRecDepth 20000 in
theorem ggX5_readNumber_X5_isFigure : GoodIn wsX5_readNumber wsX5_isFigure := goodIn_r _ [13, 1, 2, 3, 14, 15, 8, 16, 17, 18, 19, 20, 21, 22, 23, 24, 25, 26, 27, 28, 29, 30, 31, 32] (by decide +kernel) (by decide +kernel)
set_option maxRecDepth 20000 in
theorem gX5_readNumber_X5_isFigure : GoodIn wsX5_readNumber (wsV RX5 174 RX5 yX5_isFigure wsX5_isFigure) := goodIn_app (goodIn_of _ (by decide +kernel)) ggX5_readNumber_X5_isFigure
theorem dX5_readNumber_0 : decode cX5_readNumber 0 = .ok (.aload_n 0, 1) := by decide +kernel
theorem dX5_readNumber_1 : decode cX5_readNumber 1 = .ok (.invokevirtual 171, 3) := by decide +kernel
theorem dX5_readNumber_4 : decode cX5_readNumber 4 = .ok (.iload_n 2, 1) := by decide +kernel
theorem dX5_readNumber_5 : decode cX5_readNumber 5 = .ok (.ifCond .eq 32, 3) := by decide +kernel
theorem dX5_readNumber_8 : decode cX5_readNumber 8 = .ok (.aload_n 0, 1) := by decide +kernel
theorem dX5_readNumber_9 : decode cX5_readNumber 9 = .ok (.getfield 168, 3) := by decide +kernel
theorem dX5_readNumber_12 : decode cX5_readNumber 12 = .ok (.aload_n 0, 1) := by decide +kernel
theorem dX5_readNumber_13 : decode cX5_readNumber 13 = .ok (.getfield 165, 3) := by decide +kernel
theorem dX5_readNumber_16 : decode cX5_readNumber 16 = .ok (.if_icmp .ge 21, 3) := by decide +kernel
theorem dX5_readNumber_19 : decode cX5_readNumber 19 = .ok (.aload_n 0, 1) := by decide +kernel
theorem dX5_readNumber_20 : decode cX5_readNumber 20 = .ok (.getfield 22, 3) := by decide +kernel
theorem dX5_readNumber_23 : decode cX5_readNumber 23 = .ok (.aload_n 0, 1) := by decide +kernel
theorem dX5_readNumber_24 : decode cX5_readNumber 24 = .ok (.getfield 168, 3) := by decide +kernel
theorem dX5_readNumber_27 : decode cX5_readNumber 27 = .ok (.iaload, 1) := by decide +kernel
theorem dX5_readNumber_28 : decode cX5_readNumber 28 = .ok (.bipush 45, 2) := by decide +kernel
theorem dX5_readNumber_30 : decode cX5_readNumber 30 = .ok (.if_icmp .ne 7, 3) := by decide +kernel
theorem dX5_readNumber_33 : decode cX5_readNumber 33 = .ok (.iconst 1, 1) := by decide +kernel
theorem dX5_readNumber_34 : decode cX5_readNumber 34 = .ok (.goto 4, 3) := by decide +kernel
theorem dX5_readNumber_37 : decode cX5_readNumber 37 = .ok (.iconst 0, 1) := by decide +kernel
theorem dX5_readNumber_38 : decode cX5_readNumber 38 = .ok (.istore_n 3, 1) := by decide +kernel
theorem dX5_readNumber_39 : decode cX5_readNumber 39 = .ok (.aload_n 0, 1) := by decide +kernel
theorem dX5_readNumber_40 : decode cX5_readNumber 40 = .ok (.dup, 1) := by decide +kernel
theorem dX5_readNumber_41 : decode cX5_readNumber 41 = .ok (.getfield 168, 3) := by decide +kernel
theorem dX5_readNumber_44 : decode cX5_readNumber 44 = .ok (.iload_n 3, 1) := by decide +kernel
theorem dX5_readNumber_45 : decode cX5_readNumber 45 = .ok (.ifCond .eq 7, 3) := by decide +kernel
theorem dX5_readNumber_48 : decode cX5_readNumber 48 = .ok (.iconst 1, 1) := by decide +kernel
theorem dX5_readNumber_49 : decode cX5_readNumber 49 = .ok (.goto 4, 3) := by decide +kernel
theorem dX5_readNumber_52 : decode cX5_readNumber 52 = .ok (.iconst 0, 1) := by decide +kernel
theorem dX5_readNumber_53 : decode cX5_readNumber 53 = .ok (.iadd, 1) := by decide +kernel
theorem dX5_readNumber_54 : decode cX5_readNumber 54 = .ok (.putfield 168, 3) := by decide +kernel
theorem dX5_readNumber_57 : decode cX5_readNumber 57 = .ok (.aload_n 0, 1) := by decide +kernel
theorem dX5_readNumber_58 : decode cX5_readNumber 58 = .ok (.getfield 168, 3) := by decide +kernel
theorem dX5_readNumber_61 : decode cX5_readNumber 61 = .ok (.istore 4, 2) := by decide +kernel
theorem dX5_readNumber_63 : decode cX5_readNumber 63 = .ok (.iconst 0, 1) := by decide +kernel
theorem dX5_readNumber_64 : decode cX5_readNumber 64 = .ok (.istore 5, 2) := by decide +kernel
theorem dX5_readNumber_66 : decode cX5_readNumber 66 = .ok (.aload_n 0, 1) := by decide +kernel
theorem dX5_readNumber_67 : decode cX5_readNumber 67 = .ok (.invokevirtual 174, 3) := by decide +kernel
theorem dX5_readNumber_70 : decode cX5_readNumber 70 = .ok (.ifCond .eq 47, 3) := by decide +kernel
theorem dX5_readNumber_73 : decode cX5_readNumber 73 = .ok (.aload_n 0, 1) := by decide +kernel
theorem dX5_readNumber_74 : decode cX5_readNumber 74 = .ok (.getfield 168, 3) := by decide +kernel
theorem dX5_readNumber_77 : decode cX5_readNumber 77 = .ok (.iload 4, 2) := by decide +kernel
theorem dX5_readNumber_79 : decode cX5_readNumber 79 = .ok (.iconst 3, 1) := by decide +kernel
theorem dX5_readNumber_80 : decode cX5_readNumber 80 = .ok (.iadd, 1) := by decide +kernel
theorem dX5_readNumber_81 : decode cX5_readNumber 81 = .ok (.if_icmp .ge 36, 3) := by decide +kernel
theorem dX5_readNumber_84 : decode cX5_readNumber 84 = .ok (.bipush 10, 2) := by decide +kernel
theorem dX5_readNumber_86 : decode cX5_readNumber 86 = .ok (.iload 5, 2) := by decide +kernel
theorem dX5_readNumber_88 : decode cX5_readNumber 88 = .ok (.imul, 1) := by decide +kernel
theorem dX5_readNumber_89 : decode cX5_readNumber 89 = .ok (.aload_n 0, 1) := by decide +kernel
theorem dX5_readNumber_90 : decode cX5_readNumber 90 = .ok (.getfield 22, 3) := by decide +kernel
theorem dX5_readNumber_93 : decode cX5_readNumber 93 = .ok (.aload_n 0, 1) := by decide +kernel
theorem dX5_readNumber_94 : decode cX5_readNumber 94 = .ok (.getfield 168, 3) := by decide +kernel
theorem dX5_readNumber_97 : decode cX5_readNumber 97 = .ok (.iaload, 1) := by decide +kernel
theorem dX5_readNumber_98 : decode cX5_readNumber 98 = .ok (.iadd, 1) := by decide +kernel
theorem dX5_readNumber_99 : decode cX5_readNumber 99 = .ok (.bipush 48, 2) := by decide +kernel
theorem dX5_readNumber_101 : decode cX5_readNumber 101 = .ok (.isub, 1) := by decide +kernel
theorem dX5_readNumber_102 : decode cX5_readNumber 102 = .ok (.istore 5, 2) := by decide +kernel
theorem dX5_readNumber_104 : decode cX5_readNumber 104 = .ok (.aload_n 0, 1) := by decide +kernel
theorem dX5_readNumber_105 : decode cX5_readNumber 105 = .ok (.dup, 1) := by decide +kernel
theorem dX5_readNumber_106 : decode cX5_readNumber 106 = .ok (.getfield 168, 3) := by decide +kernel
theorem dX5_readNumber_109 : decode cX5_readNumber 109 = .ok (.iconst 1, 1) := by decide +kernel
theorem dX5_readNumber_110 : decode cX5_readNumber 110 = .ok (.iadd, 1) := by decide +kernel
theorem dX5_readNumber_111 : decode cX5_readNumber 111 = .ok (.putfield 168, 3) := by decide +kernel
theorem dX5_readNumber_114 : decode cX5_readNumber 114 = .ok (.goto (-48), 3) := by decide +kernel
theorem dX5_readNumber_117 : decode cX5_readNumber 117 = .ok (.aload_n 0, 1) := by decide +kernel
theorem dX5_readNumber_118 : decode cX5_readNumber 118 = .ok (.getfield 31, 3) := by decide +kernel
theorem dX5_readNumber_121 : decode cX5_readNumber 121 = .ok (.iload_n 1, 1) := by decide +kernel
theorem dX5_readNumber_122 : decode cX5_readNumber 122 = .ok (.iload_n 3, 1) := by decide +kernel
theorem dX5_readNumber_123 : decode cX5_readNumber 123 = .ok (.ifCond .eq 9, 3) := by decide +kernel
theorem dX5_readNumber_126 : decode cX5_readNumber 126 = .ok (.iload 5, 2) := by decide +kernel
theorem dX5_readNumber_128 : decode cX5_readNumber 128 = .ok (.ineg, 1) := by decide +kernel
theorem dX5_readNumber_129 : decode cX5_readNumber 129 = .ok (.goto 5, 3) := by decide +kernel
theorem dX5_readNumber_132 : decode cX5_readNumber 132 = .ok (.iload 5, 2) := by decide +kernel
theorem dX5_readNumber_134 : decode cX5_readNumber 134 = .ok (.iastore, 1) := by decide +kernel
theorem dX5_readNumber_135 : decode cX5_readNumber 135 = .ok (.aload_n 0, 1) := by decide +kernel
theorem dX5_readNumber_136 : decode cX5_readNumber 136 = .ok (.getfield 168, 3) := by decide +kernel
theorem dX5_readNumber_139 : decode cX5_readNumber 139 = .ok (.iload 4, 2) := by decide +kernel
theorem dX5_readNumber_141 : decode cX5_readNumber 141 = .ok (.if_icmp .le 14, 3) := by decide +kernel
theorem dX5_readNumber_144 : decode cX5_readNumber 144 = .ok (.aload_n 0, 1) := by decide +kernel
theorem dX5_readNumber_145 : decode cX5_readNumber 145 = .ok (.invokevirtual 174, 3) := by decide +kernel
theorem dX5_readNumber_148 : decode cX5_readNumber 148 = .ok (.ifCond .ne 7, 3) := by decide +kernel
theorem dX5_readNumber_151 : decode cX5_readNumber 151 = .ok (.iconst 1, 1) := by decide +kernel
theorem dX5_readNumber_152 : decode cX5_readNumber 152 = .ok (.goto 4, 3) := by decide +kernel
theorem dX5_readNumber_155 : decode cX5_readNumber 155 = .ok (.iconst 0, 1) := by decide +kernel
theorem dX5_readNumber_156 : decode cX5_readNumber 156 = .ok (.ireturn, 1) := by decide +kernel
theorem dX5_numbersOf_0 : decode cX5_numbersOf 0 = .ok (.iload_n 0, 1) := by decide +kernel
theorem dX5_numbersOf_1 : decode cX5_numbersOf 1 = .ok (.bipush 104, 2) := by decide +kernel
theorem dX5_numbersOf_3 : decode cX5_numbersOf 3 = .ok (.if_icmp .ne 7, 3) := by decide +kernel
theorem dX5_numbersOf_6 : decode cX5_numbersOf 6 = .ok (.iconst 4, 1) := by decide +kernel
theorem dX5_numbersOf_7 : decode cX5_numbersOf 7 = .ok (.goto 47, 3) := by decide +kernel
theorem dX5_numbersOf_10 : decode cX5_numbersOf 10 = .ok (.iload_n 0, 1) := by decide +kernel
theorem dX5_numbersOf_11 : decode cX5_numbersOf 11 = .ok (.bipush 107, 2) := by decide +kernel
theorem dX5_numbersOf_13 : decode cX5_numbersOf 13 = .ok (.if_icmp .ne 7, 3) := by decide +kernel
theorem dX5_numbersOf_16 : decode cX5_numbersOf 16 = .ok (.iconst 2, 1) := by decide +kernel
theorem dX5_numbersOf_17 : decode cX5_numbersOf 17 = .ok (.goto 37, 3) := by decide +kernel
theorem dX5_numbersOf_20 : decode cX5_numbersOf 20 = .ok (.iload_n 0, 1) := by decide +kernel
theorem dX5_numbersOf_21 : decode cX5_numbersOf 21 = .ok (.bipush 112, 2) := by decide +kernel
theorem dX5_numbersOf_23 : decode cX5_numbersOf 23 = .ok (.if_icmp .eq 15, 3) := by decide +kernel
theorem dX5_numbersOf_26 : decode cX5_numbersOf 26 = .ok (.iload_n 0, 1) := by decide +kernel
theorem dX5_numbersOf_27 : decode cX5_numbersOf 27 = .ok (.bipush 120, 2) := by decide +kernel
theorem dX5_numbersOf_29 : decode cX5_numbersOf 29 = .ok (.if_icmp .eq 9, 3) := by decide +kernel
theorem dX5_numbersOf_32 : decode cX5_numbersOf 32 = .ok (.iload_n 0, 1) := by decide +kernel
theorem dX5_numbersOf_33 : decode cX5_numbersOf 33 = .ok (.bipush 109, 2) := by decide +kernel
theorem dX5_numbersOf_35 : decode cX5_numbersOf 35 = .ok (.if_icmp .ne 7, 3) := by decide +kernel
theorem dX5_numbersOf_38 : decode cX5_numbersOf 38 = .ok (.iconst 1, 1) := by decide +kernel
theorem dX5_numbersOf_39 : decode cX5_numbersOf 39 = .ok (.goto 15, 3) := by decide +kernel
theorem dX5_numbersOf_42 : decode cX5_numbersOf 42 = .ok (.iload_n 0, 1) := by decide +kernel
theorem dX5_numbersOf_43 : decode cX5_numbersOf 43 = .ok (.bipush 99, 2) := by decide +kernel
theorem dX5_numbersOf_45 : decode cX5_numbersOf 45 = .ok (.if_icmp .ne 7, 3) := by decide +kernel
theorem dX5_numbersOf_48 : decode cX5_numbersOf 48 = .ok (.iconst 0, 1) := by decide +kernel
theorem dX5_numbersOf_49 : decode cX5_numbersOf 49 = .ok (.goto 5, 3) := by decide +kernel
theorem dX5_numbersOf_52 : decode cX5_numbersOf 52 = .ok (.ldc 74, 2) := by decide +kernel
theorem dX5_numbersOf_54 : decode cX5_numbersOf 54 = .ok (.ireturn, 1) := by decide +kernel
set_option maxRecDepth 20000 in
theorem ggX5_readOrder_X5_numbersOf : GoodIn wsX5_readOrder wsX5_numbersOf := goodIn_r _ [8, 1] (by decide +kernel) (by decide +kernel)
set_option maxRecDepth 20000 in
theorem gX5_readOrder_X5_numbersOf : GoodIn wsX5_readOrder (va_wsS RX5 178 yX5_numbersOf wsX5_numbersOf) := goodIn_app (goodIn_of _ (by decide +kernel)) ggX5_readOrder_X5_numbersOf
set_option maxRecDepth 20000 in
theorem ggX5_readOrder_X5_readNumber : GoodIn wsX5_readOrder wsX5_readNumber := goodIn_r _ [12, 2, 3, 4, 13, 14, 15, 16, 7, 17, 18, 19, 20, 21, 22, 23, 24, 25, 26, 27, 28, 29, 30, 31, 32, 33, 34, 35, 36, 37, 38, 39, 40] (by decide +kernel) (by decide +kernel)
set_option maxRecDepth 20000 in
theorem gX5_readOrder_X5_readNumber : GoodIn wsX5_readOrder (wsV RX5 181 RX5 yX5_readNumber wsX5_readNumber) := goodIn_app (goodIn_of _ (by decide +kernel)) ggX5_readOrder_X5_readNumber
set_option maxRecDepth 20000 in
theorem ggX5_readOrder_X5_skip : GoodIn wsX5_readOrder wsX5_skip := goodIn_r _ [17, 2, 3, 4, 25, 26, 27, 28, 29, 30, 31, 32, 33, 34, 35, 36, 37, 38, 39, 40] (by decide +kernel) (by decide +kernel)
set_option maxRecDepth 20000 in
theorem gX5_readOrder_X5_skip : GoodIn wsX5_readOrder (wsV RX5 171 RX5 yX5_skip wsX5_skip) := goodIn_app (goodIn_of _ (by decide +kernel)) ggX5_readOrder_X5_skip
theorem dX5_readOrder_0 : decode cX5_readOrder 0 = .ok (.iload_n 1, 1) := by decide +kernel
theorem dX5_readOrder_1 : decode cX5_readOrder 1 = .ok (.invokestatic 178, 3) := by decide +kernel
theorem dX5_readOrder_4 : decode cX5_readOrder 4 = .ok (.istore_n 2, 1) := by decide +kernel
theorem dX5_readOrder_5 : decode cX5_readOrder 5 = .ok (.iload_n 2, 1) := by decide +kernel
theorem dX5_readOrder_6 : decode cX5_readOrder 6 = .ok (.ldc 74, 2) := by decide +kernel
theorem dX5_readOrder_8 : decode cX5_readOrder 8 = .ok (.if_icmp .ne 5, 3) := by decide +kernel
theorem dX5_readOrder_11 : decode cX5_readOrder 11 = .ok (.iconst 0, 1) := by decide +kernel
theorem dX5_readOrder_12 : decode cX5_readOrder 12 = .ok (.ireturn, 1) := by decide +kernel
theorem dX5_readOrder_13 : decode cX5_readOrder 13 = .ok (.aload_n 0, 1) := by decide +kernel
theorem dX5_readOrder_14 : decode cX5_readOrder 14 = .ok (.dup, 1) := by decide +kernel
theorem dX5_readOrder_15 : decode cX5_readOrder 15 = .ok (.getfield 168, 3) := by decide +kernel
theorem dX5_readOrder_18 : decode cX5_readOrder 18 = .ok (.iconst 1, 1) := by decide +kernel
theorem dX5_readOrder_19 : decode cX5_readOrder 19 = .ok (.iadd, 1) := by decide +kernel
theorem dX5_readOrder_20 : decode cX5_readOrder 20 = .ok (.putfield 168, 3) := by decide +kernel
theorem dX5_readOrder_23 : decode cX5_readOrder 23 = .ok (.iconst 0, 1) := by decide +kernel
theorem dX5_readOrder_24 : decode cX5_readOrder 24 = .ok (.istore_n 3, 1) := by decide +kernel
theorem dX5_readOrder_25 : decode cX5_readOrder 25 = .ok (.iload_n 3, 1) := by decide +kernel
theorem dX5_readOrder_26 : decode cX5_readOrder 26 = .ok (.iload_n 2, 1) := by decide +kernel
theorem dX5_readOrder_27 : decode cX5_readOrder 27 = .ok (.if_icmp .ge 29, 3) := by decide +kernel
theorem dX5_readOrder_30 : decode cX5_readOrder 30 = .ok (.aload_n 0, 1) := by decide +kernel
theorem dX5_readOrder_31 : decode cX5_readOrder 31 = .ok (.iload_n 3, 1) := by decide +kernel
theorem dX5_readOrder_32 : decode cX5_readOrder 32 = .ok (.iload_n 3, 1) := by decide +kernel
theorem dX5_readOrder_33 : decode cX5_readOrder 33 = .ok (.iconst 2, 1) := by decide +kernel
theorem dX5_readOrder_34 : decode cX5_readOrder 34 = .ok (.if_icmp .ne 7, 3) := by decide +kernel
theorem dX5_readOrder_37 : decode cX5_readOrder 37 = .ok (.iconst 1, 1) := by decide +kernel
theorem dX5_readOrder_38 : decode cX5_readOrder 38 = .ok (.goto 4, 3) := by decide +kernel
theorem dX5_readOrder_41 : decode cX5_readOrder 41 = .ok (.iconst 0, 1) := by decide +kernel
theorem dX5_readOrder_42 : decode cX5_readOrder 42 = .ok (.invokevirtual 181, 3) := by decide +kernel
theorem dX5_readOrder_45 : decode cX5_readOrder 45 = .ok (.ifCond .ne 5, 3) := by decide +kernel
theorem dX5_readOrder_48 : decode cX5_readOrder 48 = .ok (.iconst 0, 1) := by decide +kernel
theorem dX5_readOrder_49 : decode cX5_readOrder 49 = .ok (.ireturn, 1) := by decide +kernel
theorem dX5_readOrder_50 : decode cX5_readOrder 50 = .ok (.iinc 3 1, 3) := by decide +kernel
theorem dX5_readOrder_53 : decode cX5_readOrder 53 = .ok (.goto (-28), 3) := by decide +kernel
theorem dX5_readOrder_56 : decode cX5_readOrder 56 = .ok (.aload_n 0, 1) := by decide +kernel
theorem dX5_readOrder_57 : decode cX5_readOrder 57 = .ok (.invokevirtual 171, 3) := by decide +kernel
theorem dX5_readOrder_60 : decode cX5_readOrder 60 = .ok (.aload_n 0, 1) := by decide +kernel
theorem dX5_readOrder_61 : decode cX5_readOrder 61 = .ok (.getfield 168, 3) := by decide +kernel
theorem dX5_readOrder_64 : decode cX5_readOrder 64 = .ok (.aload_n 0, 1) := by decide +kernel
theorem dX5_readOrder_65 : decode cX5_readOrder 65 = .ok (.getfield 165, 3) := by decide +kernel
theorem dX5_readOrder_68 : decode cX5_readOrder 68 = .ok (.if_icmp .eq 17, 3) := by decide +kernel
theorem dX5_readOrder_71 : decode cX5_readOrder 71 = .ok (.aload_n 0, 1) := by decide +kernel
theorem dX5_readOrder_72 : decode cX5_readOrder 72 = .ok (.getfield 22, 3) := by decide +kernel
theorem dX5_readOrder_75 : decode cX5_readOrder 75 = .ok (.aload_n 0, 1) := by decide +kernel
theorem dX5_readOrder_76 : decode cX5_readOrder 76 = .ok (.getfield 168, 3) := by decide +kernel
theorem dX5_readOrder_79 : decode cX5_readOrder 79 = .ok (.iaload, 1) := by decide +kernel
theorem dX5_readOrder_80 : decode cX5_readOrder 80 = .ok (.bipush 59, 2) := by decide +kernel
theorem dX5_readOrder_82 : decode cX5_readOrder 82 = .ok (.if_icmp .eq 5, 3) := by decide +kernel
theorem dX5_readOrder_85 : decode cX5_readOrder 85 = .ok (.iconst 0, 1) := by decide +kernel
theorem dX5_readOrder_86 : decode cX5_readOrder 86 = .ok (.ireturn, 1) := by decide +kernel
theorem dX5_readOrder_87 : decode cX5_readOrder 87 = .ok (.aload_n 0, 1) := by decide +kernel
theorem dX5_readOrder_88 : decode cX5_readOrder 88 = .ok (.dup, 1) := by decide +kernel
theorem dX5_readOrder_89 : decode cX5_readOrder 89 = .ok (.getfield 168, 3) := by decide +kernel
theorem dX5_readOrder_92 : decode cX5_readOrder 92 = .ok (.iconst 1, 1) := by decide +kernel
theorem dX5_readOrder_93 : decode cX5_readOrder 93 = .ok (.iadd, 1) := by decide +kernel
theorem dX5_readOrder_94 : decode cX5_readOrder 94 = .ok (.putfield 168, 3) := by decide +kernel
theorem dX5_readOrder_97 : decode cX5_readOrder 97 = .ok (.aload_n 0, 1) := by decide +kernel
theorem dX5_readOrder_98 : decode cX5_readOrder 98 = .ok (.invokevirtual 171, 3) := by decide +kernel
theorem dX5_readOrder_101 : decode cX5_readOrder 101 = .ok (.iconst 1, 1) := by decide +kernel
theorem dX5_readOrder_102 : decode cX5_readOrder 102 = .ok (.ireturn, 1) := by decide +kernel
set_option maxRecDepth 20000 in
theorem ggX5_findFault_X5_skip : GoodIn wsX5_findFault wsX5_skip := goodIn_r _ [9, 1, 2, 3, 29, 30, 31, 32, 33, 34, 35, 36, 37, 38, 39, 40, 41, 42, 43, 44] (by decide +kernel) (by decide +kernel)
set_option maxRecDepth 20000 in
theorem gX5_findFault_X5_skip : GoodIn wsX5_findFault (wsV RX5 171 RX5 yX5_skip wsX5_skip) := goodIn_app (goodIn_of _ (by decide +kernel)) ggX5_findFault_X5_skip
set_option maxRecDepth 20000 in
theorem ggX5_findFault_X5_readOrder : GoodIn wsX5_findFault wsX5_readOrder := goodIn_r _ [13, 4, 1, 2, 3, 14, 15, 8, 16, 17, 18, 19, 20, 21, 5, 6, 7, 9, 22, 23, 24, 25, 26, 27, 28, 29, 30, 31, 32, 33, 34, 35, 36, 37, 38, 39, 40, 41, 42, 43, 44] (by decide +kernel) (by decide +kernel)
set_option maxRecDepth 20000 in
theorem gX5_findFault_X5_readOrder : GoodIn wsX5_findFault (wsV RX5 185 RX5 yX5_readOrder wsX5_readOrder) := goodIn_app (goodIn_of _ (by decide +kernel)) ggX5_findFault_X5_readOrder
theorem dX5_findFault_0 : decode cX5_findFault 0 = .ok (.aload_n 0, 1) := by decide +kernel
theorem dX5_findFault_1 : decode cX5_findFault 1 = .ok (.iconst 0, 1) := by decide +kernel
theorem dX5_findFault_2 : decode cX5_findFault 2 = .ok (.putfield 168, 3) := by decide +kernel
theorem dX5_findFault_5 : decode cX5_findFault 5 = .ok (.aload_n 0, 1) := by decide +kernel
theorem dX5_findFault_6 : decode cX5_findFault 6 = .ok (.invokevirtual 171, 3) := by decide +kernel
theorem dX5_findFault_9 : decode cX5_findFault 9 = .ok (.aload_n 0, 1) := by decide +kernel
theorem dX5_findFault_10 : decode cX5_findFault 10 = .ok (.getfield 168, 3) := by decide +kernel
theorem dX5_findFault_13 : decode cX5_findFault 13 = .ok (.aload_n 0, 1) := by decide +kernel
theorem dX5_findFault_14 : decode cX5_findFault 14 = .ok (.getfield 165, 3) := by decide +kernel
theorem dX5_findFault_17 : decode cX5_findFault 17 = .ok (.if_icmp .ge 7, 3) := by decide +kernel
theorem dX5_findFault_20 : decode cX5_findFault 20 = .ok (.iconst 1, 1) := by decide +kernel
theorem dX5_findFault_21 : decode cX5_findFault 21 = .ok (.goto 4, 3) := by decide +kernel
theorem dX5_findFault_24 : decode cX5_findFault 24 = .ok (.iconst 0, 1) := by decide +kernel
theorem dX5_findFault_25 : decode cX5_findFault 25 = .ok (.istore_n 1, 1) := by decide +kernel
theorem dX5_findFault_26 : decode cX5_findFault 26 = .ok (.iload_n 1, 1) := by decide +kernel
theorem dX5_findFault_27 : decode cX5_findFault 27 = .ok (.ifCond .eq 31, 3) := by decide +kernel
theorem dX5_findFault_30 : decode cX5_findFault 30 = .ok (.aload_n 0, 1) := by decide +kernel
theorem dX5_findFault_31 : decode cX5_findFault 31 = .ok (.getfield 168, 3) := by decide +kernel
theorem dX5_findFault_34 : decode cX5_findFault 34 = .ok (.aload_n 0, 1) := by decide +kernel
theorem dX5_findFault_35 : decode cX5_findFault 35 = .ok (.getfield 165, 3) := by decide +kernel
theorem dX5_findFault_38 : decode cX5_findFault 38 = .ok (.if_icmp .ge 20, 3) := by decide +kernel
theorem dX5_findFault_41 : decode cX5_findFault 41 = .ok (.aload_n 0, 1) := by decide +kernel
theorem dX5_findFault_42 : decode cX5_findFault 42 = .ok (.aload_n 0, 1) := by decide +kernel
theorem dX5_findFault_43 : decode cX5_findFault 43 = .ok (.getfield 22, 3) := by decide +kernel
theorem dX5_findFault_46 : decode cX5_findFault 46 = .ok (.aload_n 0, 1) := by decide +kernel
theorem dX5_findFault_47 : decode cX5_findFault 47 = .ok (.getfield 168, 3) := by decide +kernel
theorem dX5_findFault_50 : decode cX5_findFault 50 = .ok (.iaload, 1) := by decide +kernel
theorem dX5_findFault_51 : decode cX5_findFault 51 = .ok (.invokevirtual 185, 3) := by decide +kernel
theorem dX5_findFault_54 : decode cX5_findFault 54 = .ok (.istore_n 1, 1) := by decide +kernel
theorem dX5_findFault_55 : decode cX5_findFault 55 = .ok (.goto (-29), 3) := by decide +kernel
theorem dX5_findFault_58 : decode cX5_findFault 58 = .ok (.iload_n 1, 1) := by decide +kernel
theorem dX5_findFault_59 : decode cX5_findFault 59 = .ok (.ifCond .eq 8, 3) := by decide +kernel
theorem dX5_findFault_62 : decode cX5_findFault 62 = .ok (.ldc 74, 2) := by decide +kernel
theorem dX5_findFault_64 : decode cX5_findFault 64 = .ok (.goto 7, 3) := by decide +kernel
theorem dX5_findFault_67 : decode cX5_findFault 67 = .ok (.aload_n 0, 1) := by decide +kernel
theorem dX5_findFault_68 : decode cX5_findFault 68 = .ok (.getfield 168, 3) := by decide +kernel
theorem dX5_findFault_71 : decode cX5_findFault 71 = .ok (.ireturn, 1) := by decide +kernel
end
section
set_option maxRecDepth 20000 in
theorem ggX5_does_X5_findFault : GoodIn wsX5_does wsX5_findFault := goodIn_r _ [12, 4, 5, 6, 1, 13, 14, 15, 11, 16, 17, 18, 19, 20, 21, 22, 23, 24, 25, 26, 27, 28, 29, 30, 31, 32, 33, 34, 35, 93, 94, 95, 96, 97, 98, 99, 100, 101, 102, 103, 104, 105, 106, 107, 108] (by decide +kernel) (by decide +kernel)
set_option maxRecDepth 20000 in
theorem gX5_does_X5_findFault : GoodIn wsX5_does (wsV RX5 188 RX5 yX5_findFault wsX5_findFault) := goodIn_app (goodIn_of _ (by decide +kernel)) ggX5_does_X5_findFault
set_option maxRecDepth 20000 in
theorem ggX5_does_X5_bring : GoodIn wsX5_does wsX5_bring := goodIn_r _ [38] (by decide +kernel) (by decide +kernel)
set_option maxRecDepth 20000 in
theorem gX5_does_X5_bring : GoodIn wsX5_does (va_wsS RX5 42 yX5_bring wsX5_bring) := goodIn_app (goodIn_of _ (by decide +kernel)) ggX5_does_X5_bring
set_option maxRecDepth 20000 in
theorem ggX5_does_X5_skip : GoodIn wsX5_does wsX5_skip := goodIn_r _ [16, 4, 5, 6, 93, 94, 95, 96, 97, 98, 99, 100, 101, 102, 103, 104, 105, 106, 107, 108] (by decide +kernel) (by decide +kernel)
set_option maxRecDepth 20000 in
theorem gX5_does_X5_skip : GoodIn wsX5_does (wsV RX5 171 RX5 yX5_skip wsX5_skip) := goodIn_app (goodIn_of _ (by decide +kernel)) ggX5_does_X5_skip
set_option maxRecDepth 20000 in
theorem ggX5_does_X5_readOrder : GoodIn wsX5_does wsX5_readOrder := goodIn_r _ [20, 1, 4, 5, 6, 21, 22, 11, 23, 24, 25, 26, 27, 28, 13, 14, 15, 16, 29, 30, 31, 32, 33, 34, 35, 93, 94, 95, 96, 97, 98, 99, 100, 101, 102, 103, 104, 105, 106, 107, 108] (by decide +kernel) (by decide +kernel)
set_option maxRecDepth 20000 in
theorem gX5_does_X5_readOrder : GoodIn wsX5_does (wsV RX5 185 RX5 yX5_readOrder wsX5_readOrder) := goodIn_app (goodIn_of _ (by decide +kernel)) ggX5_does_X5_readOrder
set_option maxRecDepth 20000 in
theorem ggX5_does_X5_barOf : GoodIn wsX5_does wsX5_barOf := goodIn_r _ [42, 28, 43, 2, 44, 45, 46, 47, 11, 48, 49, 33, 34, 35, 50, 51, 52, 53, 54, 55, 56, 57, 58, 59, 60, 61, 62, 63, 64, 65, 66, 67, 68, 69, 70, 71, 72, 73, 74, 75, 93, 94, 95, 96, 97, 98, 99, 100, 101, 102, 103, 104, 105, 106, 107, 108] (by decide +kernel) (by decide +kernel)
set_option maxRecDepth 20000 in
theorem gX5_does_X5_barOf : GoodIn wsX5_does (wsV RX5 126 RX5 yX5_barOf wsX5_barOf) := goodIn_app (goodIn_of _ (by decide +kernel)) ggX5_does_X5_barOf
set_option maxRecDepth 20000 in
theorem ggX5_does_X5_act : GoodIn wsX5_does wsX5_act := goodIn_r _ [79, 28, 2, 80, 81, 82, 11, 83, 84, 85, 86, 68, 69, 70, 71, 72, 73, 74, 75, 93, 94, 95, 96, 97, 98, 99, 100, 101, 102, 103, 104, 105, 106, 107, 108] (by decide +kernel) (by decide +kernel)
set_option maxRecDepth 20000 in
theorem gX5_does_X5_act : GoodIn wsX5_does (wsV RX5 135 RX5 yX5_act wsX5_act) := goodIn_app (goodIn_of _ (by decide +kernel)) ggX5_does_X5_act
set_option maxRecDepth 20000 in
theorem ggX5_does_X5_note : GoodIn wsX5_does wsX5_note := goodIn_r _ [90, 91, 92, 2, 36, 37, 11, 38, 93, 94, 95, 96, 97, 98, 99, 100, 101, 102, 103, 104, 105, 106, 107, 108] (by decide +kernel) (by decide +kernel)
set_option maxRecDepth 20000 in
theorem gX5_does_X5_note : GoodIn wsX5_does (wsV RX5 132 RX5 yX5_note wsX5_note) := goodIn_app (goodIn_of _ (by decide +kernel)) ggX5_does_X5_note
theorem dX5_does_0 : decode cX5_does 0 = .ok (.aload_n 0, 1) := by decide +kernel
theorem dX5_does_1 : decode cX5_does 1 = .ok (.invokevirtual 188, 3) := by decide +kernel
theorem dX5_does_4 : decode cX5_does 4 = .ok (.istore_n 1, 1) := by decide +kernel
theorem dX5_does_5 : decode cX5_does 5 = .ok (.iload_n 1, 1) := by decide +kernel
theorem dX5_does_6 : decode cX5_does 6 = .ok (.ldc 74, 2) := by decide +kernel
theorem dX5_does_8 : decode cX5_does 8 = .ok (.if_icmp .eq 8, 3) := by decide +kernel
theorem dX5_does_11 : decode cX5_does 11 = .ok (.bipush (-10), 2) := by decide +kernel
theorem dX5_does_13 : decode cX5_does 13 = .ok (.iload_n 1, 1) := by decide +kernel
theorem dX5_does_14 : decode cX5_does 14 = .ok (.isub, 1) := by decide +kernel
theorem dX5_does_15 : decode cX5_does 15 = .ok (.ireturn, 1) := by decide +kernel
theorem dX5_does_16 : decode cX5_does 16 = .ok (.aload_n 0, 1) := by decide +kernel
theorem dX5_does_17 : decode cX5_does 17 = .ok (.getfield 7, 3) := by decide +kernel
theorem dX5_does_20 : decode cX5_does 20 = .ok (.iconst 0, 1) := by decide +kernel
theorem dX5_does_21 : decode cX5_does 21 = .ok (.aload_n 0, 1) := by decide +kernel
theorem dX5_does_22 : decode cX5_does 22 = .ok (.getfield 13, 3) := by decide +kernel
theorem dX5_does_25 : decode cX5_does 25 = .ok (.iconst 0, 1) := by decide +kernel
theorem dX5_does_26 : decode cX5_does 26 = .ok (.invokestatic 42, 3) := by decide +kernel
theorem dX5_does_29 : decode cX5_does 29 = .ok (.iconst 0, 1) := by decide +kernel
theorem dX5_does_30 : decode cX5_does 30 = .ok (.istore_n 2, 1) := by decide +kernel
theorem dX5_does_31 : decode cX5_does 31 = .ok (.aload_n 0, 1) := by decide +kernel
theorem dX5_does_32 : decode cX5_does 32 = .ok (.iconst 0, 1) := by decide +kernel
theorem dX5_does_33 : decode cX5_does 33 = .ok (.putfield 168, 3) := by decide +kernel
theorem dX5_does_36 : decode cX5_does 36 = .ok (.aload_n 0, 1) := by decide +kernel
theorem dX5_does_37 : decode cX5_does 37 = .ok (.invokevirtual 171, 3) := by decide +kernel
theorem dX5_does_40 : decode cX5_does 40 = .ok (.aload_n 0, 1) := by decide +kernel
theorem dX5_does_41 : decode cX5_does 41 = .ok (.getfield 168, 3) := by decide +kernel
theorem dX5_does_44 : decode cX5_does 44 = .ok (.aload_n 0, 1) := by decide +kernel
theorem dX5_does_45 : decode cX5_does 45 = .ok (.getfield 165, 3) := by decide +kernel
theorem dX5_does_48 : decode cX5_does 48 = .ok (.if_icmp .ge 65, 3) := by decide +kernel
theorem dX5_does_51 : decode cX5_does 51 = .ok (.aload_n 0, 1) := by decide +kernel
theorem dX5_does_52 : decode cX5_does 52 = .ok (.getfield 22, 3) := by decide +kernel
theorem dX5_does_55 : decode cX5_does 55 = .ok (.aload_n 0, 1) := by decide +kernel
theorem dX5_does_56 : decode cX5_does 56 = .ok (.getfield 168, 3) := by decide +kernel
theorem dX5_does_59 : decode cX5_does 59 = .ok (.iaload, 1) := by decide +kernel
theorem dX5_does_60 : decode cX5_does 60 = .ok (.istore_n 3, 1) := by decide +kernel
theorem dX5_does_61 : decode cX5_does 61 = .ok (.aload_n 0, 1) := by decide +kernel
theorem dX5_does_62 : decode cX5_does 62 = .ok (.iload_n 3, 1) := by decide +kernel
theorem dX5_does_63 : decode cX5_does 63 = .ok (.invokevirtual 185, 3) := by decide +kernel
theorem dX5_does_66 : decode cX5_does 66 = .ok (.istore 4, 2) := by decide +kernel
theorem dX5_does_68 : decode cX5_does 68 = .ok (.iload 4, 2) := by decide +kernel
theorem dX5_does_70 : decode cX5_does 70 = .ok (.ifCond .eq 11, 3) := by decide +kernel
theorem dX5_does_73 : decode cX5_does 73 = .ok (.aload_n 0, 1) := by decide +kernel
theorem dX5_does_74 : decode cX5_does 74 = .ok (.iload_n 3, 1) := by decide +kernel
theorem dX5_does_75 : decode cX5_does 75 = .ok (.invokevirtual 126, 3) := by decide +kernel
theorem dX5_does_78 : decode cX5_does 78 = .ok (.ifCond .eq 22, 3) := by decide +kernel
theorem dX5_does_81 : decode cX5_does 81 = .ok (.aload_n 0, 1) := by decide +kernel
theorem dX5_does_82 : decode cX5_does 82 = .ok (.getfield 13, 3) := by decide +kernel
theorem dX5_does_85 : decode cX5_does 85 = .ok (.iconst 0, 1) := by decide +kernel
theorem dX5_does_86 : decode cX5_does 86 = .ok (.aload_n 0, 1) := by decide +kernel
theorem dX5_does_87 : decode cX5_does 87 = .ok (.getfield 7, 3) := by decide +kernel
theorem dX5_does_90 : decode cX5_does 90 = .ok (.iconst 0, 1) := by decide +kernel
theorem dX5_does_91 : decode cX5_does 91 = .ok (.invokestatic 42, 3) := by decide +kernel
theorem dX5_does_94 : decode cX5_does 94 = .ok (.sipush (-1000), 3) := by decide +kernel
theorem dX5_does_97 : decode cX5_does 97 = .ok (.iload_n 2, 1) := by decide +kernel
theorem dX5_does_98 : decode cX5_does 98 = .ok (.isub, 1) := by decide +kernel
theorem dX5_does_99 : decode cX5_does 99 = .ok (.ireturn, 1) := by decide +kernel
theorem dX5_does_100 : decode cX5_does 100 = .ok (.aload_n 0, 1) := by decide +kernel
theorem dX5_does_101 : decode cX5_does 101 = .ok (.iload_n 3, 1) := by decide +kernel
theorem dX5_does_102 : decode cX5_does 102 = .ok (.invokevirtual 135, 3) := by decide +kernel
theorem dX5_does_105 : decode cX5_does 105 = .ok (.istore 5, 2) := by decide +kernel
theorem dX5_does_107 : decode cX5_does 107 = .ok (.iinc 2 1, 3) := by decide +kernel
theorem dX5_does_110 : decode cX5_does 110 = .ok (.goto (-70), 3) := by decide +kernel
theorem dX5_does_113 : decode cX5_does 113 = .ok (.aload_n 0, 1) := by decide +kernel
theorem dX5_does_114 : decode cX5_does 114 = .ok (.getfield 7, 3) := by decide +kernel
theorem dX5_does_117 : decode cX5_does 117 = .ok (.iconst 0, 1) := by decide +kernel
theorem dX5_does_118 : decode cX5_does 118 = .ok (.aload_n 0, 1) := by decide +kernel
theorem dX5_does_119 : decode cX5_does 119 = .ok (.getfield 34, 3) := by decide +kernel
theorem dX5_does_122 : decode cX5_does 122 = .ok (.iconst 0, 1) := by decide +kernel
theorem dX5_does_123 : decode cX5_does 123 = .ok (.invokestatic 42, 3) := by decide +kernel
theorem dX5_does_126 : decode cX5_does 126 = .ok (.aload_n 0, 1) := by decide +kernel
theorem dX5_does_127 : decode cX5_does 127 = .ok (.getfield 13, 3) := by decide +kernel
theorem dX5_does_130 : decode cX5_does 130 = .ok (.iconst 0, 1) := by decide +kernel
theorem dX5_does_131 : decode cX5_does 131 = .ok (.aload_n 0, 1) := by decide +kernel
theorem dX5_does_132 : decode cX5_does 132 = .ok (.getfield 7, 3) := by decide +kernel
theorem dX5_does_135 : decode cX5_does 135 = .ok (.iconst 0, 1) := by decide +kernel
theorem dX5_does_136 : decode cX5_does 136 = .ok (.invokestatic 42, 3) := by decide +kernel
theorem dX5_does_139 : decode cX5_does 139 = .ok (.aload_n 0, 1) := by decide +kernel
theorem dX5_does_140 : decode cX5_does 140 = .ok (.invokevirtual 132, 3) := by decide +kernel
theorem dX5_does_143 : decode cX5_does 143 = .ok (.aload_n 0, 1) := by decide +kernel
theorem dX5_does_144 : decode cX5_does 144 = .ok (.getfield 34, 3) := by decide +kernel
theorem dX5_does_147 : decode cX5_does 147 = .ok (.iconst 0, 1) := by decide +kernel
theorem dX5_does_148 : decode cX5_does 148 = .ok (.aload_n 0, 1) := by decide +kernel
theorem dX5_does_149 : decode cX5_does 149 = .ok (.getfield 7, 3) := by decide +kernel
theorem dX5_does_152 : decode cX5_does 152 = .ok (.iconst 0, 1) := by decide +kernel
theorem dX5_does_153 : decode cX5_does 153 = .ok (.invokestatic 42, 3) := by decide +kernel
theorem dX5_does_156 : decode cX5_does 156 = .ok (.iload_n 2, 1) := by decide +kernel
theorem dX5_does_157 : decode cX5_does 157 = .ok (.ireturn, 1) := by decide +kernel
set_option maxRecDepth 20000 in
theorem ggX5_back_X5_refuse : GoodIn wsX5_back wsX5_refuse := goodIn_r _ [9, 10, 11, 15, 16, 17, 18, 19, 20, 21, 22, 23, 24, 25, 26, 27, 28, 29, 30] (by decide +kernel) (by decide +kernel)
set_option maxRecDepth 20000 in
theorem gX5_back_X5_refuse : GoodIn wsX5_back (wsV RX5 129 RX5 yX5_refuse wsX5_refuse) := goodIn_app (goodIn_of _ (by decide +kernel)) ggX5_back_X5_refuse
set_option maxRecDepth 20000 in
theorem ggX5_back_X5_bring : GoodIn wsX5_back wsX5_bring := goodIn_r _ [14] (by decide +kernel) (by decide +kernel)
set_option maxRecDepth 20000 in
theorem gX5_back_X5_bring : GoodIn wsX5_back (va_wsS RX5 42 yX5_bring wsX5_bring) := goodIn_app (goodIn_of _ (by decide +kernel)) ggX5_back_X5_bring
theorem dX5_back_0 : decode cX5_back 0 = .ok (.aload_n 0, 1) := by decide +kernel
theorem dX5_back_1 : decode cX5_back 1 = .ok (.getfield 38, 3) := by decide +kernel
theorem dX5_back_4 : decode cX5_back 4 = .ok (.ifCond .ne 10, 3) := by decide +kernel
theorem dX5_back_7 : decode cX5_back 7 = .ok (.aload_n 0, 1) := by decide +kernel
theorem dX5_back_8 : decode cX5_back 8 = .ok (.ldc 106, 2) := by decide +kernel
theorem dX5_back_10 : decode cX5_back 10 = .ok (.invokevirtual 129, 3) := by decide +kernel
theorem dX5_back_13 : decode cX5_back 13 = .ok (.ireturn, 1) := by decide +kernel
theorem dX5_back_14 : decode cX5_back 14 = .ok (.aload_n 0, 1) := by decide +kernel
theorem dX5_back_15 : decode cX5_back 15 = .ok (.dup, 1) := by decide +kernel
theorem dX5_back_16 : decode cX5_back 16 = .ok (.getfield 38, 3) := by decide +kernel
theorem dX5_back_19 : decode cX5_back 19 = .ok (.iconst 1, 1) := by decide +kernel
theorem dX5_back_20 : decode cX5_back 20 = .ok (.isub, 1) := by decide +kernel
theorem dX5_back_21 : decode cX5_back 21 = .ok (.putfield 38, 3) := by decide +kernel
theorem dX5_back_24 : decode cX5_back 24 = .ok (.aload_n 0, 1) := by decide +kernel
theorem dX5_back_25 : decode cX5_back 25 = .ok (.getfield 16, 3) := by decide +kernel
theorem dX5_back_28 : decode cX5_back 28 = .ok (.bipush 58, 2) := by decide +kernel
theorem dX5_back_30 : decode cX5_back 30 = .ok (.aload_n 0, 1) := by decide +kernel
theorem dX5_back_31 : decode cX5_back 31 = .ok (.getfield 38, 3) := by decide +kernel
theorem dX5_back_34 : decode cX5_back 34 = .ok (.imul, 1) := by decide +kernel
theorem dX5_back_35 : decode cX5_back 35 = .ok (.aload_n 0, 1) := by decide +kernel
theorem dX5_back_36 : decode cX5_back 36 = .ok (.getfield 7, 3) := by decide +kernel
theorem dX5_back_39 : decode cX5_back 39 = .ok (.iconst 0, 1) := by decide +kernel
theorem dX5_back_40 : decode cX5_back 40 = .ok (.invokestatic 42, 3) := by decide +kernel
theorem dX5_back_43 : decode cX5_back 43 = .ok (.aload_n 0, 1) := by decide +kernel
theorem dX5_back_44 : decode cX5_back 44 = .ok (.getfield 38, 3) := by decide +kernel
theorem dX5_back_47 : decode cX5_back 47 = .ok (.ireturn, 1) := by decide +kernel
theorem dX5_toldOf_0 : decode cX5_toldOf 0 = .ok (.iload_n 1, 1) := by decide +kernel
theorem dX5_toldOf_1 : decode cX5_toldOf 1 = .ok (.iconst 3, 1) := by decide +kernel
theorem dX5_toldOf_2 : decode cX5_toldOf 2 = .ok (.if_icmp .ge 12, 3) := by decide +kernel
theorem dX5_toldOf_5 : decode cX5_toldOf 5 = .ok (.aload_n 0, 1) := by decide +kernel
theorem dX5_toldOf_6 : decode cX5_toldOf 6 = .ok (.getfield 19, 3) := by decide +kernel
theorem dX5_toldOf_9 : decode cX5_toldOf 9 = .ok (.iload_n 1, 1) := by decide +kernel
theorem dX5_toldOf_10 : decode cX5_toldOf 10 = .ok (.iaload, 1) := by decide +kernel
theorem dX5_toldOf_11 : decode cX5_toldOf 11 = .ok (.goto 19, 3) := by decide +kernel
theorem dX5_toldOf_14 : decode cX5_toldOf 14 = .ok (.iload_n 1, 1) := by decide +kernel
theorem dX5_toldOf_15 : decode cX5_toldOf 15 = .ok (.iconst 3, 1) := by decide +kernel
theorem dX5_toldOf_16 : decode cX5_toldOf 16 = .ok (.if_icmp .ne 10, 3) := by decide +kernel
theorem dX5_toldOf_19 : decode cX5_toldOf 19 = .ok (.aload_n 0, 1) := by decide +kernel
theorem dX5_toldOf_20 : decode cX5_toldOf 20 = .ok (.getfield 165, 3) := by decide +kernel
theorem dX5_toldOf_23 : decode cX5_toldOf 23 = .ok (.goto 7, 3) := by decide +kernel
theorem dX5_toldOf_26 : decode cX5_toldOf 26 = .ok (.aload_n 0, 1) := by decide +kernel
theorem dX5_toldOf_27 : decode cX5_toldOf 27 = .ok (.getfield 38, 3) := by decide +kernel
theorem dX5_toldOf_30 : decode cX5_toldOf 30 = .ok (.ireturn, 1) := by decide +kernel
set_option maxRecDepth 20000 in
theorem ggX5_told_X5_in : GoodIn wsX5_told wsX5_in := goodIn_r _ [5] (by decide +kernel) (by decide +kernel)
set_option maxRecDepth 20000 in
theorem gX5_told_X5_in : GoodIn wsX5_told (va_wsS RX5 46 yX5_in wsX5_in) := goodIn_app (goodIn_of _ (by decide +kernel)) ggX5_told_X5_in
set_option maxRecDepth 20000 in
theorem ggX5_told_X5_toldOf : GoodIn wsX5_told wsX5_toldOf := goodIn_r _ [9, 10, 11, 12, 17, 18, 19, 20, 21, 22, 23, 24, 25, 26, 27, 28, 29, 30, 31, 32] (by decide +kernel) (by decide +kernel)
set_option maxRecDepth 20000 in
theorem gX5_told_X5_toldOf : GoodIn wsX5_told (wsV RX5 191 RX5 yX5_toldOf wsX5_toldOf) := goodIn_app (goodIn_of _ (by decide +kernel)) ggX5_told_X5_toldOf
set_option maxRecDepth 20000 in
theorem ggX5_told_X5_refuse : GoodIn wsX5_told wsX5_refuse := goodIn_r _ [16, 10, 1, 17, 18, 19, 20, 21, 22, 23, 24, 25, 26, 27, 28, 29, 30, 31, 32] (by decide +kernel) (by decide +kernel)
set_option maxRecDepth 20000 in
theorem gX5_told_X5_refuse : GoodIn wsX5_told (wsV RX5 129 RX5 yX5_refuse wsX5_refuse) := goodIn_app (goodIn_of _ (by decide +kernel)) ggX5_told_X5_refuse
theorem dX5_told_0 : decode cX5_told 0 = .ok (.iload_n 1, 1) := by decide +kernel
theorem dX5_told_1 : decode cX5_told 1 = .ok (.iconst 0, 1) := by decide +kernel
theorem dX5_told_2 : decode cX5_told 2 = .ok (.iconst 4, 1) := by decide +kernel
theorem dX5_told_3 : decode cX5_told 3 = .ok (.invokestatic 46, 3) := by decide +kernel
theorem dX5_told_6 : decode cX5_told 6 = .ok (.ifCond .eq 11, 3) := by decide +kernel
theorem dX5_told_9 : decode cX5_told 9 = .ok (.aload_n 0, 1) := by decide +kernel
theorem dX5_told_10 : decode cX5_told 10 = .ok (.iload_n 1, 1) := by decide +kernel
theorem dX5_told_11 : decode cX5_told 11 = .ok (.invokevirtual 191, 3) := by decide +kernel
theorem dX5_told_14 : decode cX5_told 14 = .ok (.goto 9, 3) := by decide +kernel
theorem dX5_told_17 : decode cX5_told 17 = .ok (.aload_n 0, 1) := by decide +kernel
theorem dX5_told_18 : decode cX5_told 18 = .ok (.ldc 37, 2) := by decide +kernel
theorem dX5_told_20 : decode cX5_told 20 = .ok (.invokevirtual 129, 3) := by decide +kernel
theorem dX5_told_23 : decode cX5_told 23 = .ok (.ireturn, 1) := by decide +kernel
set_option maxRecDepth 20000 in
theorem ggX5_digest_X5_toldOf : GoodIn wsX5_digest wsX5_toldOf := goodIn_r _ [10, 11, 12, 13, 78, 79, 80, 81, 82, 83, 84, 85, 86, 87, 88, 89, 90, 91, 92, 93] (by decide +kernel) (by decide +kernel)
set_option maxRecDepth 20000 in
theorem gX5_digest_X5_toldOf : GoodIn wsX5_digest (wsV RX5 191 RX5 yX5_toldOf wsX5_toldOf) := goodIn_app (goodIn_of _ (by decide +kernel)) ggX5_digest_X5_toldOf
set_option maxRecDepth 20000 in
theorem ggX5_digest_X5_countOf : GoodIn wsX5_digest wsX5_countOf := goodIn_r _ [17, 3, 18, 19, 9, 20, 21, 22, 23, 24, 25, 26, 27, 28, 29, 30, 31, 78, 79, 80, 81, 82, 83, 84, 85, 86, 87, 88, 89, 90, 91, 92, 93] (by decide +kernel) (by decide +kernel)
set_option maxRecDepth 20000 in
theorem gX5_digest_X5_countOf : GoodIn wsX5_digest (wsV RX5 154 RX5 yX5_countOf wsX5_countOf) := goodIn_app (goodIn_of _ (by decide +kernel)) ggX5_digest_X5_countOf
set_option maxRecDepth 20000 in
theorem ggX5_digest_X5_ofSpan : GoodIn wsX5_digest wsX5_ofSpan := goodIn_r _ [24, 3, 78, 79, 80, 81, 82, 83, 84, 85, 86, 87, 88, 89, 90, 91, 92, 93] (by decide +kernel) (by decide +kernel)
set_option maxRecDepth 20000 in
theorem gX5_digest_X5_ofSpan : GoodIn wsX5_digest (wsV RX5 50 RX5 yX5_ofSpan wsX5_ofSpan) := goodIn_app (goodIn_of _ (by decide +kernel)) ggX5_digest_X5_ofSpan
set_option maxRecDepth 20000 in
theorem ggX5_digest_X5_lossOf : GoodIn wsX5_digest wsX5_lossOf := goodIn_r _ [35, 21, 22, 23, 9, 24, 3, 36, 37, 38, 78, 79, 80, 81, 82, 83, 84, 85, 86, 87, 88, 89, 90, 91, 92, 93] (by decide +kernel) (by decide +kernel)
set_option maxRecDepth 20000 in
theorem gX5_digest_X5_lossOf : GoodIn wsX5_digest (wsV RX5 71 RX5 yX5_lossOf wsX5_lossOf) := goodIn_app (goodIn_of _ (by decide +kernel)) ggX5_digest_X5_lossOf
set_option maxRecDepth 20000 in
theorem ggX5_digest_X5_goRun : GoodIn wsX5_digest wsX5_goRun := goodIn_r _ [42, 4, 43, 5, 44, 45, 46, 3, 47, 48, 9, 49, 50, 51, 52, 53, 54, 55, 56, 57, 21, 22, 23, 24, 58, 59, 60, 32, 33, 34, 35, 36, 37, 38, 78, 79, 80, 81, 82, 83, 84, 85, 86, 87, 88, 89, 90, 91, 92, 93] (by decide +kernel) (by decide +kernel)
set_option maxRecDepth 20000 in
theorem gX5_digest_X5_goRun : GoodIn wsX5_digest (wsV RX5 92 RX5 yX5_goRun wsX5_goRun) := goodIn_app (goodIn_of _ (by decide +kernel)) ggX5_digest_X5_goRun
set_option maxRecDepth 20000 in
theorem ggX5_digest_X5_ofRun : GoodIn wsX5_digest wsX5_ofRun := goodIn_r _ [64, 3, 43, 44, 45, 46, 39, 40, 41, 9, 42, 4, 5, 47, 48, 49, 50, 51, 52, 53, 54, 55, 56, 57, 21, 22, 23, 24, 58, 59, 60, 32, 33, 34, 35, 36, 37, 38, 78, 79, 80, 81, 82, 83, 84, 85, 86, 87, 88, 89, 90, 91, 92, 93] (by decide +kernel) (by decide +kernel)
set_option maxRecDepth 20000 in
theorem gX5_digest_X5_ofRun : GoodIn wsX5_digest (wsV RX5 145 RX5 yX5_ofRun wsX5_ofRun) := goodIn_app (goodIn_of _ (by decide +kernel)) ggX5_digest_X5_ofRun
set_option maxRecDepth 20000 in
theorem ggX5_digest_X5_fewestOf : GoodIn wsX5_digest wsX5_fewestOf := goodIn_r _ [68, 43, 69, 70, 71, 72, 9, 73, 3, 29, 30, 31, 39, 40, 41, 42, 4, 5, 44, 45, 46, 47, 48, 49, 50, 51, 52, 53, 54, 55, 56, 57, 21, 22, 23, 24, 58, 59, 60, 32, 33, 34, 35, 36, 37, 38, 78, 79, 80, 81, 82, 83, 84, 85, 86, 87, 88, 89, 90, 91, 92, 93] (by decide +kernel) (by decide +kernel)
set_option maxRecDepth 20000 in
theorem gX5_digest_X5_fewestOf : GoodIn wsX5_digest (wsV RX5 148 RX5 yX5_fewestOf wsX5_fewestOf) := goodIn_app (goodIn_of _ (by decide +kernel)) ggX5_digest_X5_fewestOf
set_option maxRecDepth 20000 in
theorem ggX5_digest_X5_mostNow : GoodIn wsX5_digest wsX5_mostNow := goodIn_r _ [77, 43, 3, 39, 40, 41, 9, 42, 4, 5, 44, 45, 46, 47, 48, 49, 50, 51, 52, 53, 54, 55, 56, 57, 21, 22, 23, 24, 58, 59, 60, 32, 33, 34, 35, 36, 37, 38, 78, 79, 80, 81, 82, 83, 84, 85, 86, 87, 88, 89, 90, 91, 92, 93] (by decide +kernel) (by decide +kernel)
set_option maxRecDepth 20000 in
theorem gX5_digest_X5_mostNow : GoodIn wsX5_digest (wsV RX5 151 RX5 yX5_mostNow wsX5_mostNow) := goodIn_app (goodIn_of _ (by decide +kernel)) ggX5_digest_X5_mostNow
theorem dX5_digest_0 : decode cX5_digest 0 = .ok (.ldc2_w 194, 3) := by decide +kernel
theorem dX5_digest_3 : decode cX5_digest 3 = .ok (.lstore_n 1, 1) := by decide +kernel
theorem dX5_digest_4 : decode cX5_digest 4 = .ok (.iconst 0, 1) := by decide +kernel
theorem dX5_digest_5 : decode cX5_digest 5 = .ok (.istore_n 3, 1) := by decide +kernel
theorem dX5_digest_6 : decode cX5_digest 6 = .ok (.iload_n 3, 1) := by decide +kernel
theorem dX5_digest_7 : decode cX5_digest 7 = .ok (.iconst 5, 1) := by decide +kernel
theorem dX5_digest_8 : decode cX5_digest 8 = .ok (.if_icmp .ge 22, 3) := by decide +kernel
theorem dX5_digest_11 : decode cX5_digest 11 = .ok (.ldc2_w 196, 3) := by decide +kernel
theorem dX5_digest_14 : decode cX5_digest 14 = .ok (.lload_n 1, 1) := by decide +kernel
theorem dX5_digest_15 : decode cX5_digest 15 = .ok (.lmul, 1) := by decide +kernel
theorem dX5_digest_16 : decode cX5_digest 16 = .ok (.aload_n 0, 1) := by decide +kernel
theorem dX5_digest_17 : decode cX5_digest 17 = .ok (.iload_n 3, 1) := by decide +kernel
theorem dX5_digest_18 : decode cX5_digest 18 = .ok (.invokevirtual 191, 3) := by decide +kernel
theorem dX5_digest_21 : decode cX5_digest 21 = .ok (.i2l, 1) := by decide +kernel
theorem dX5_digest_22 : decode cX5_digest 22 = .ok (.ladd, 1) := by decide +kernel
theorem dX5_digest_23 : decode cX5_digest 23 = .ok (.lstore_n 1, 1) := by decide +kernel
theorem dX5_digest_24 : decode cX5_digest 24 = .ok (.iinc 3 1, 3) := by decide +kernel
theorem dX5_digest_27 : decode cX5_digest 27 = .ok (.goto (-21), 3) := by decide +kernel
theorem dX5_digest_30 : decode cX5_digest 30 = .ok (.iconst 0, 1) := by decide +kernel
theorem dX5_digest_31 : decode cX5_digest 31 = .ok (.istore_n 3, 1) := by decide +kernel
theorem dX5_digest_32 : decode cX5_digest 32 = .ok (.iload_n 3, 1) := by decide +kernel
theorem dX5_digest_33 : decode cX5_digest 33 = .ok (.bipush 11, 2) := by decide +kernel
theorem dX5_digest_35 : decode cX5_digest 35 = .ok (.if_icmp .ge 22, 3) := by decide +kernel
theorem dX5_digest_38 : decode cX5_digest 38 = .ok (.ldc2_w 196, 3) := by decide +kernel
theorem dX5_digest_41 : decode cX5_digest 41 = .ok (.lload_n 1, 1) := by decide +kernel
theorem dX5_digest_42 : decode cX5_digest 42 = .ok (.lmul, 1) := by decide +kernel
theorem dX5_digest_43 : decode cX5_digest 43 = .ok (.aload_n 0, 1) := by decide +kernel
theorem dX5_digest_44 : decode cX5_digest 44 = .ok (.iload_n 3, 1) := by decide +kernel
theorem dX5_digest_45 : decode cX5_digest 45 = .ok (.invokevirtual 154, 3) := by decide +kernel
theorem dX5_digest_48 : decode cX5_digest 48 = .ok (.i2l, 1) := by decide +kernel
theorem dX5_digest_49 : decode cX5_digest 49 = .ok (.ladd, 1) := by decide +kernel
theorem dX5_digest_50 : decode cX5_digest 50 = .ok (.lstore_n 1, 1) := by decide +kernel
theorem dX5_digest_51 : decode cX5_digest 51 = .ok (.iinc 3 1, 3) := by decide +kernel
theorem dX5_digest_54 : decode cX5_digest 54 = .ok (.goto (-22), 3) := by decide +kernel
theorem dX5_digest_57 : decode cX5_digest 57 = .ok (.iconst 0, 1) := by decide +kernel
theorem dX5_digest_58 : decode cX5_digest 58 = .ok (.istore_n 3, 1) := by decide +kernel
theorem dX5_digest_59 : decode cX5_digest 59 = .ok (.iload_n 3, 1) := by decide +kernel
theorem dX5_digest_60 : decode cX5_digest 60 = .ok (.aload_n 0, 1) := by decide +kernel
theorem dX5_digest_61 : decode cX5_digest 61 = .ok (.getfield 7, 3) := by decide +kernel
theorem dX5_digest_64 : decode cX5_digest 64 = .ok (.iconst 0, 1) := by decide +kernel
theorem dX5_digest_65 : decode cX5_digest 65 = .ok (.iaload, 1) := by decide +kernel
theorem dX5_digest_66 : decode cX5_digest 66 = .ok (.if_icmp .ge 58, 3) := by decide +kernel
theorem dX5_digest_69 : decode cX5_digest 69 = .ok (.iconst 0, 1) := by decide +kernel
theorem dX5_digest_70 : decode cX5_digest 70 = .ok (.istore 4, 2) := by decide +kernel
theorem dX5_digest_72 : decode cX5_digest 72 = .ok (.iload 4, 2) := by decide +kernel
theorem dX5_digest_74 : decode cX5_digest 74 = .ok (.iconst 5, 1) := by decide +kernel
theorem dX5_digest_75 : decode cX5_digest 75 = .ok (.if_icmp .ge 24, 3) := by decide +kernel
theorem dX5_digest_78 : decode cX5_digest 78 = .ok (.ldc2_w 196, 3) := by decide +kernel
theorem dX5_digest_81 : decode cX5_digest 81 = .ok (.lload_n 1, 1) := by decide +kernel
theorem dX5_digest_82 : decode cX5_digest 82 = .ok (.lmul, 1) := by decide +kernel
theorem dX5_digest_83 : decode cX5_digest 83 = .ok (.aload_n 0, 1) := by decide +kernel
theorem dX5_digest_84 : decode cX5_digest 84 = .ok (.iload_n 3, 1) := by decide +kernel
theorem dX5_digest_85 : decode cX5_digest 85 = .ok (.iload 4, 2) := by decide +kernel
theorem dX5_digest_87 : decode cX5_digest 87 = .ok (.invokevirtual 50, 3) := by decide +kernel
theorem dX5_digest_90 : decode cX5_digest 90 = .ok (.i2l, 1) := by decide +kernel
theorem dX5_digest_91 : decode cX5_digest 91 = .ok (.ladd, 1) := by decide +kernel
theorem dX5_digest_92 : decode cX5_digest 92 = .ok (.lstore_n 1, 1) := by decide +kernel
theorem dX5_digest_93 : decode cX5_digest 93 = .ok (.iinc 4 1, 3) := by decide +kernel
theorem dX5_digest_96 : decode cX5_digest 96 = .ok (.goto (-24), 3) := by decide +kernel
theorem dX5_digest_99 : decode cX5_digest 99 = .ok (.ldc2_w 196, 3) := by decide +kernel
theorem dX5_digest_102 : decode cX5_digest 102 = .ok (.lload_n 1, 1) := by decide +kernel
theorem dX5_digest_103 : decode cX5_digest 103 = .ok (.lmul, 1) := by decide +kernel
theorem dX5_digest_104 : decode cX5_digest 104 = .ok (.aload_n 0, 1) := by decide +kernel
theorem dX5_digest_105 : decode cX5_digest 105 = .ok (.iload_n 3, 1) := by decide +kernel
theorem dX5_digest_106 : decode cX5_digest 106 = .ok (.aload_n 0, 1) := by decide +kernel
theorem dX5_digest_107 : decode cX5_digest 107 = .ok (.getfield 7, 3) := by decide +kernel
theorem dX5_digest_110 : decode cX5_digest 110 = .ok (.iconst 2, 1) := by decide +kernel
theorem dX5_digest_111 : decode cX5_digest 111 = .ok (.iaload, 1) := by decide +kernel
theorem dX5_digest_112 : decode cX5_digest 112 = .ok (.invokevirtual 71, 3) := by decide +kernel
theorem dX5_digest_115 : decode cX5_digest 115 = .ok (.i2l, 1) := by decide +kernel
theorem dX5_digest_116 : decode cX5_digest 116 = .ok (.ladd, 1) := by decide +kernel
theorem dX5_digest_117 : decode cX5_digest 117 = .ok (.lstore_n 1, 1) := by decide +kernel
theorem dX5_digest_118 : decode cX5_digest 118 = .ok (.iinc 3 1, 3) := by decide +kernel
theorem dX5_digest_121 : decode cX5_digest 121 = .ok (.goto (-62), 3) := by decide +kernel
theorem dX5_digest_124 : decode cX5_digest 124 = .ok (.aload_n 0, 1) := by decide +kernel
theorem dX5_digest_125 : decode cX5_digest 125 = .ok (.aload_n 0, 1) := by decide +kernel
theorem dX5_digest_126 : decode cX5_digest 126 = .ok (.getfield 7, 3) := by decide +kernel
theorem dX5_digest_129 : decode cX5_digest 129 = .ok (.iconst 2, 1) := by decide +kernel
theorem dX5_digest_130 : decode cX5_digest 130 = .ok (.iaload, 1) := by decide +kernel
theorem dX5_digest_131 : decode cX5_digest 131 = .ok (.aload_n 0, 1) := by decide +kernel
theorem dX5_digest_132 : decode cX5_digest 132 = .ok (.getfield 7, 3) := by decide +kernel
theorem dX5_digest_135 : decode cX5_digest 135 = .ok (.iconst 1, 1) := by decide +kernel
theorem dX5_digest_136 : decode cX5_digest 136 = .ok (.iaload, 1) := by decide +kernel
theorem dX5_digest_137 : decode cX5_digest 137 = .ok (.invokevirtual 92, 3) := by decide +kernel
theorem dX5_digest_140 : decode cX5_digest 140 = .ok (.istore_n 3, 1) := by decide +kernel
theorem dX5_digest_141 : decode cX5_digest 141 = .ok (.iconst 0, 1) := by decide +kernel
theorem dX5_digest_142 : decode cX5_digest 142 = .ok (.istore 4, 2) := by decide +kernel
theorem dX5_digest_144 : decode cX5_digest 144 = .ok (.iload 4, 2) := by decide +kernel
theorem dX5_digest_146 : decode cX5_digest 146 = .ok (.aload_n 0, 1) := by decide +kernel
theorem dX5_digest_147 : decode cX5_digest 147 = .ok (.getfield 7, 3) := by decide +kernel
theorem dX5_digest_150 : decode cX5_digest 150 = .ok (.iconst 0, 1) := by decide +kernel
theorem dX5_digest_151 : decode cX5_digest 151 = .ok (.iaload, 1) := by decide +kernel
theorem dX5_digest_152 : decode cX5_digest 152 = .ok (.if_icmp .gt 37, 3) := by decide +kernel
theorem dX5_digest_155 : decode cX5_digest 155 = .ok (.ldc2_w 196, 3) := by decide +kernel
theorem dX5_digest_158 : decode cX5_digest 158 = .ok (.ldc2_w 196, 3) := by decide +kernel
theorem dX5_digest_161 : decode cX5_digest 161 = .ok (.lload_n 1, 1) := by decide +kernel
theorem dX5_digest_162 : decode cX5_digest 162 = .ok (.lmul, 1) := by decide +kernel
theorem dX5_digest_163 : decode cX5_digest 163 = .ok (.aload_n 0, 1) := by decide +kernel
theorem dX5_digest_164 : decode cX5_digest 164 = .ok (.getfield 25, 3) := by decide +kernel
theorem dX5_digest_167 : decode cX5_digest 167 = .ok (.iload 4, 2) := by decide +kernel
theorem dX5_digest_169 : decode cX5_digest 169 = .ok (.iaload, 1) := by decide +kernel
theorem dX5_digest_170 : decode cX5_digest 170 = .ok (.i2l, 1) := by decide +kernel
theorem dX5_digest_171 : decode cX5_digest 171 = .ok (.ladd, 1) := by decide +kernel
theorem dX5_digest_172 : decode cX5_digest 172 = .ok (.lmul, 1) := by decide +kernel
theorem dX5_digest_173 : decode cX5_digest 173 = .ok (.aload_n 0, 1) := by decide +kernel
theorem dX5_digest_174 : decode cX5_digest 174 = .ok (.getfield 28, 3) := by decide +kernel
theorem dX5_digest_177 : decode cX5_digest 177 = .ok (.iload 4, 2) := by decide +kernel
theorem dX5_digest_179 : decode cX5_digest 179 = .ok (.iaload, 1) := by decide +kernel
theorem dX5_digest_180 : decode cX5_digest 180 = .ok (.i2l, 1) := by decide +kernel
theorem dX5_digest_181 : decode cX5_digest 181 = .ok (.ladd, 1) := by decide +kernel
theorem dX5_digest_182 : decode cX5_digest 182 = .ok (.lstore_n 1, 1) := by decide +kernel
theorem dX5_digest_183 : decode cX5_digest 183 = .ok (.iinc 4 1, 3) := by decide +kernel
theorem dX5_digest_186 : decode cX5_digest 186 = .ok (.goto (-42), 3) := by decide +kernel
theorem dX5_digest_189 : decode cX5_digest 189 = .ok (.ldc2_w 196, 3) := by decide +kernel
theorem dX5_digest_192 : decode cX5_digest 192 = .ok (.ldc2_w 196, 3) := by decide +kernel
theorem dX5_digest_195 : decode cX5_digest 195 = .ok (.ldc2_w 196, 3) := by decide +kernel
theorem dX5_digest_198 : decode cX5_digest 198 = .ok (.lload_n 1, 1) := by decide +kernel
theorem dX5_digest_199 : decode cX5_digest 199 = .ok (.lmul, 1) := by decide +kernel
theorem dX5_digest_200 : decode cX5_digest 200 = .ok (.aload_n 0, 1) := by decide +kernel
theorem dX5_digest_201 : decode cX5_digest 201 = .ok (.iconst 0, 1) := by decide +kernel
theorem dX5_digest_202 : decode cX5_digest 202 = .ok (.invokevirtual 145, 3) := by decide +kernel
theorem dX5_digest_205 : decode cX5_digest 205 = .ok (.i2l, 1) := by decide +kernel
theorem dX5_digest_206 : decode cX5_digest 206 = .ok (.ladd, 1) := by decide +kernel
theorem dX5_digest_207 : decode cX5_digest 207 = .ok (.lmul, 1) := by decide +kernel
theorem dX5_digest_208 : decode cX5_digest 208 = .ok (.aload_n 0, 1) := by decide +kernel
theorem dX5_digest_209 : decode cX5_digest 209 = .ok (.iconst 1, 1) := by decide +kernel
theorem dX5_digest_210 : decode cX5_digest 210 = .ok (.invokevirtual 145, 3) := by decide +kernel
theorem dX5_digest_213 : decode cX5_digest 213 = .ok (.i2l, 1) := by decide +kernel
theorem dX5_digest_214 : decode cX5_digest 214 = .ok (.ladd, 1) := by decide +kernel
theorem dX5_digest_215 : decode cX5_digest 215 = .ok (.lmul, 1) := by decide +kernel
theorem dX5_digest_216 : decode cX5_digest 216 = .ok (.aload_n 0, 1) := by decide +kernel
theorem dX5_digest_217 : decode cX5_digest 217 = .ok (.iconst 2, 1) := by decide +kernel
theorem dX5_digest_218 : decode cX5_digest 218 = .ok (.invokevirtual 145, 3) := by decide +kernel
theorem dX5_digest_221 : decode cX5_digest 221 = .ok (.i2l, 1) := by decide +kernel
theorem dX5_digest_222 : decode cX5_digest 222 = .ok (.ladd, 1) := by decide +kernel
theorem dX5_digest_223 : decode cX5_digest 223 = .ok (.lstore_n 1, 1) := by decide +kernel
theorem dX5_digest_224 : decode cX5_digest 224 = .ok (.ldc2_w 196, 3) := by decide +kernel
theorem dX5_digest_227 : decode cX5_digest 227 = .ok (.ldc2_w 196, 3) := by decide +kernel
theorem dX5_digest_230 : decode cX5_digest 230 = .ok (.ldc2_w 196, 3) := by decide +kernel
theorem dX5_digest_233 : decode cX5_digest 233 = .ok (.lload_n 1, 1) := by decide +kernel
theorem dX5_digest_234 : decode cX5_digest 234 = .ok (.lmul, 1) := by decide +kernel
theorem dX5_digest_235 : decode cX5_digest 235 = .ok (.aload_n 0, 1) := by decide +kernel
theorem dX5_digest_236 : decode cX5_digest 236 = .ok (.aload_n 0, 1) := by decide +kernel
theorem dX5_digest_237 : decode cX5_digest 237 = .ok (.getfield 7, 3) := by decide +kernel
theorem dX5_digest_240 : decode cX5_digest 240 = .ok (.iconst 2, 1) := by decide +kernel
theorem dX5_digest_241 : decode cX5_digest 241 = .ok (.iaload, 1) := by decide +kernel
theorem dX5_digest_242 : decode cX5_digest 242 = .ok (.iconst 0, 1) := by decide +kernel
theorem dX5_digest_243 : decode cX5_digest 243 = .ok (.invokevirtual 148, 3) := by decide +kernel
theorem dX5_digest_246 : decode cX5_digest 246 = .ok (.i2l, 1) := by decide +kernel
theorem dX5_digest_247 : decode cX5_digest 247 = .ok (.ladd, 1) := by decide +kernel
theorem dX5_digest_248 : decode cX5_digest 248 = .ok (.lmul, 1) := by decide +kernel
theorem dX5_digest_249 : decode cX5_digest 249 = .ok (.aload_n 0, 1) := by decide +kernel
theorem dX5_digest_250 : decode cX5_digest 250 = .ok (.aload_n 0, 1) := by decide +kernel
theorem dX5_digest_251 : decode cX5_digest 251 = .ok (.getfield 7, 3) := by decide +kernel
theorem dX5_digest_254 : decode cX5_digest 254 = .ok (.iconst 2, 1) := by decide +kernel
theorem dX5_digest_255 : decode cX5_digest 255 = .ok (.iaload, 1) := by decide +kernel
theorem dX5_digest_256 : decode cX5_digest 256 = .ok (.iconst 1, 1) := by decide +kernel
theorem dX5_digest_257 : decode cX5_digest 257 = .ok (.invokevirtual 148, 3) := by decide +kernel
theorem dX5_digest_260 : decode cX5_digest 260 = .ok (.i2l, 1) := by decide +kernel
theorem dX5_digest_261 : decode cX5_digest 261 = .ok (.ladd, 1) := by decide +kernel
theorem dX5_digest_262 : decode cX5_digest 262 = .ok (.lmul, 1) := by decide +kernel
theorem dX5_digest_263 : decode cX5_digest 263 = .ok (.aload_n 0, 1) := by decide +kernel
theorem dX5_digest_264 : decode cX5_digest 264 = .ok (.invokevirtual 151, 3) := by decide +kernel
theorem dX5_digest_267 : decode cX5_digest 267 = .ok (.i2l, 1) := by decide +kernel
theorem dX5_digest_268 : decode cX5_digest 268 = .ok (.ladd, 1) := by decide +kernel
theorem dX5_digest_269 : decode cX5_digest 269 = .ok (.lreturn, 1) := by decide +kernel
theorem dJ6_bitCount_0f7a4_0 : decode cJ6_bitCount_0f7a4 0 = .ok (.iload_n 0, 1) := by decide +kernel
theorem dJ6_bitCount_0f7a4_1 : decode cJ6_bitCount_0f7a4 1 = .ok (.iload_n 0, 1) := by decide +kernel
theorem dJ6_bitCount_0f7a4_2 : decode cJ6_bitCount_0f7a4 2 = .ok (.iconst 1, 1) := by decide +kernel
theorem dJ6_bitCount_0f7a4_3 : decode cJ6_bitCount_0f7a4 3 = .ok (.iushr, 1) := by decide +kernel
theorem dJ6_bitCount_0f7a4_4 : decode cJ6_bitCount_0f7a4 4 = .ok (.ldc_w 265, 3) := by decide +kernel
theorem dJ6_bitCount_0f7a4_7 : decode cJ6_bitCount_0f7a4 7 = .ok (.iand, 1) := by decide +kernel
theorem dJ6_bitCount_0f7a4_8 : decode cJ6_bitCount_0f7a4 8 = .ok (.isub, 1) := by decide +kernel
theorem dJ6_bitCount_0f7a4_9 : decode cJ6_bitCount_0f7a4 9 = .ok (.istore_n 0, 1) := by decide +kernel
theorem dJ6_bitCount_0f7a4_10 : decode cJ6_bitCount_0f7a4 10 = .ok (.iload_n 0, 1) := by decide +kernel
theorem dJ6_bitCount_0f7a4_11 : decode cJ6_bitCount_0f7a4 11 = .ok (.ldc_w 266, 3) := by decide +kernel
theorem dJ6_bitCount_0f7a4_14 : decode cJ6_bitCount_0f7a4 14 = .ok (.iand, 1) := by decide +kernel
theorem dJ6_bitCount_0f7a4_15 : decode cJ6_bitCount_0f7a4 15 = .ok (.iload_n 0, 1) := by decide +kernel
theorem dJ6_bitCount_0f7a4_16 : decode cJ6_bitCount_0f7a4 16 = .ok (.iconst 2, 1) := by decide +kernel
theorem dJ6_bitCount_0f7a4_17 : decode cJ6_bitCount_0f7a4 17 = .ok (.iushr, 1) := by decide +kernel
theorem dJ6_bitCount_0f7a4_18 : decode cJ6_bitCount_0f7a4 18 = .ok (.ldc_w 266, 3) := by decide +kernel
theorem dJ6_bitCount_0f7a4_21 : decode cJ6_bitCount_0f7a4 21 = .ok (.iand, 1) := by decide +kernel
theorem dJ6_bitCount_0f7a4_22 : decode cJ6_bitCount_0f7a4 22 = .ok (.iadd, 1) := by decide +kernel
theorem dJ6_bitCount_0f7a4_23 : decode cJ6_bitCount_0f7a4 23 = .ok (.istore_n 0, 1) := by decide +kernel
theorem dJ6_bitCount_0f7a4_24 : decode cJ6_bitCount_0f7a4 24 = .ok (.iload_n 0, 1) := by decide +kernel
theorem dJ6_bitCount_0f7a4_25 : decode cJ6_bitCount_0f7a4 25 = .ok (.iload_n 0, 1) := by decide +kernel
theorem dJ6_bitCount_0f7a4_26 : decode cJ6_bitCount_0f7a4 26 = .ok (.iconst 4, 1) := by decide +kernel
theorem dJ6_bitCount_0f7a4_27 : decode cJ6_bitCount_0f7a4 27 = .ok (.iushr, 1) := by decide +kernel
theorem dJ6_bitCount_0f7a4_28 : decode cJ6_bitCount_0f7a4 28 = .ok (.iadd, 1) := by decide +kernel
theorem dJ6_bitCount_0f7a4_29 : decode cJ6_bitCount_0f7a4 29 = .ok (.ldc_w 267, 3) := by decide +kernel
theorem dJ6_bitCount_0f7a4_32 : decode cJ6_bitCount_0f7a4 32 = .ok (.iand, 1) := by decide +kernel
theorem dJ6_bitCount_0f7a4_33 : decode cJ6_bitCount_0f7a4 33 = .ok (.istore_n 0, 1) := by decide +kernel
theorem dJ6_bitCount_0f7a4_34 : decode cJ6_bitCount_0f7a4 34 = .ok (.iload_n 0, 1) := by decide +kernel
theorem dJ6_bitCount_0f7a4_35 : decode cJ6_bitCount_0f7a4 35 = .ok (.iload_n 0, 1) := by decide +kernel
theorem dJ6_bitCount_0f7a4_36 : decode cJ6_bitCount_0f7a4 36 = .ok (.bipush 8, 2) := by decide +kernel
theorem dJ6_bitCount_0f7a4_38 : decode cJ6_bitCount_0f7a4 38 = .ok (.iushr, 1) := by decide +kernel
theorem dJ6_bitCount_0f7a4_39 : decode cJ6_bitCount_0f7a4 39 = .ok (.iadd, 1) := by decide +kernel
theorem dJ6_bitCount_0f7a4_40 : decode cJ6_bitCount_0f7a4 40 = .ok (.istore_n 0, 1) := by decide +kernel
theorem dJ6_bitCount_0f7a4_41 : decode cJ6_bitCount_0f7a4 41 = .ok (.iload_n 0, 1) := by decide +kernel
theorem dJ6_bitCount_0f7a4_42 : decode cJ6_bitCount_0f7a4 42 = .ok (.iload_n 0, 1) := by decide +kernel
theorem dJ6_bitCount_0f7a4_43 : decode cJ6_bitCount_0f7a4 43 = .ok (.bipush 16, 2) := by decide +kernel
theorem dJ6_bitCount_0f7a4_45 : decode cJ6_bitCount_0f7a4 45 = .ok (.iushr, 1) := by decide +kernel
theorem dJ6_bitCount_0f7a4_46 : decode cJ6_bitCount_0f7a4 46 = .ok (.iadd, 1) := by decide +kernel
theorem dJ6_bitCount_0f7a4_47 : decode cJ6_bitCount_0f7a4 47 = .ok (.istore_n 0, 1) := by decide +kernel
theorem dJ6_bitCount_0f7a4_48 : decode cJ6_bitCount_0f7a4 48 = .ok (.iload_n 0, 1) := by decide +kernel
theorem dJ6_bitCount_0f7a4_49 : decode cJ6_bitCount_0f7a4 49 = .ok (.bipush 63, 2) := by decide +kernel
theorem dJ6_bitCount_0f7a4_51 : decode cJ6_bitCount_0f7a4 51 = .ok (.iand, 1) := by decide +kernel
theorem dJ6_bitCount_0f7a4_52 : decode cJ6_bitCount_0f7a4 52 = .ok (.ireturn, 1) := by decide +kernel
theorem dJ9_max_7cf53_0 : decode cJ9_max_7cf53 0 = .ok (.iload_n 0, 1) := by decide +kernel
theorem dJ9_max_7cf53_1 : decode cJ9_max_7cf53 1 = .ok (.iload_n 1, 1) := by decide +kernel
theorem dJ9_max_7cf53_2 : decode cJ9_max_7cf53 2 = .ok (.if_icmp .lt 7, 3) := by decide +kernel
theorem dJ9_max_7cf53_5 : decode cJ9_max_7cf53 5 = .ok (.iload_n 0, 1) := by decide +kernel
theorem dJ9_max_7cf53_6 : decode cJ9_max_7cf53 6 = .ok (.goto 4, 3) := by decide +kernel
theorem dJ9_max_7cf53_9 : decode cJ9_max_7cf53 9 = .ok (.iload_n 1, 1) := by decide +kernel
theorem dJ9_max_7cf53_10 : decode cJ9_max_7cf53 10 = .ok (.ireturn, 1) := by decide +kernel
theorem dJ9_min_7cf53_0 : decode cJ9_min_7cf53 0 = .ok (.iload_n 0, 1) := by decide +kernel
theorem dJ9_min_7cf53_1 : decode cJ9_min_7cf53 1 = .ok (.iload_n 1, 1) := by decide +kernel
theorem dJ9_min_7cf53_2 : decode cJ9_min_7cf53 2 = .ok (.if_icmp .gt 7, 3) := by decide +kernel
theorem dJ9_min_7cf53_5 : decode cJ9_min_7cf53 5 = .ok (.iload_n 0, 1) := by decide +kernel
theorem dJ9_min_7cf53_6 : decode cJ9_min_7cf53 6 = .ok (.goto 4, 3) := by decide +kernel
theorem dJ9_min_7cf53_9 : decode cJ9_min_7cf53 9 = .ok (.iload_n 1, 1) := by decide +kernel
theorem dJ9_min_7cf53_10 : decode cJ9_min_7cf53 10 = .ok (.ireturn, 1) := by decide +kernel
theorem dJ7_fill_53178_0 : decode cJ7_fill_53178 0 = .ok (.iconst 0, 1) := by decide +kernel
theorem dJ7_fill_53178_1 : decode cJ7_fill_53178 1 = .ok (.istore_n 2, 1) := by decide +kernel
theorem dJ7_fill_53178_2 : decode cJ7_fill_53178 2 = .ok (.aload_n 0, 1) := by decide +kernel
theorem dJ7_fill_53178_3 : decode cJ7_fill_53178 3 = .ok (.arraylength, 1) := by decide +kernel
theorem dJ7_fill_53178_4 : decode cJ7_fill_53178 4 = .ok (.istore_n 3, 1) := by decide +kernel
theorem dJ7_fill_53178_5 : decode cJ7_fill_53178 5 = .ok (.iload_n 2, 1) := by decide +kernel
theorem dJ7_fill_53178_6 : decode cJ7_fill_53178 6 = .ok (.iload_n 3, 1) := by decide +kernel
theorem dJ7_fill_53178_7 : decode cJ7_fill_53178 7 = .ok (.if_icmp .ge 13, 3) := by decide +kernel
theorem dJ7_fill_53178_10 : decode cJ7_fill_53178 10 = .ok (.aload_n 0, 1) := by decide +kernel
theorem dJ7_fill_53178_11 : decode cJ7_fill_53178 11 = .ok (.iload_n 2, 1) := by decide +kernel
theorem dJ7_fill_53178_12 : decode cJ7_fill_53178 12 = .ok (.iload_n 1, 1) := by decide +kernel
theorem dJ7_fill_53178_13 : decode cJ7_fill_53178 13 = .ok (.iastore, 1) := by decide +kernel
theorem dJ7_fill_53178_14 : decode cJ7_fill_53178 14 = .ok (.iinc 2 1, 3) := by decide +kernel
theorem dJ7_fill_53178_17 : decode cJ7_fill_53178 17 = .ok (.goto (-12), 3) := by decide +kernel
theorem dJ7_fill_53178_20 : decode cJ7_fill_53178 20 = .ok (.return_, 1) := by decide +kernel
set_option maxRecDepth 20000 in
theorem ggL_law_X4_init : GoodIn wsL_law wsX4_init := goodIn_r _ [8, 9, 10, 11, 12, 13, 14, 15, 16, 17, 18, 19, 20, 21, 22, 23, 24, 25, 26, 27, 28, 29, 30, 31, 32, 33, 34, 35, 36, 37, 38, 39, 40, 41, 42, 43, 44, 45, 46, 47, 48, 49, 50, 51, 52, 53, 54, 55, 56, 57, 58, 59, 60, 61, 62, 63, 64, 65, 66, 67, 68, 69, 659, 660, 661, 662, 632, 633, 634, 635, 636, 637, 638, 639, 640, 641, 642, 663, 664, 665, 666, 667, 668, 669, 670, 671, 672, 673] (by decide +kernel) (by decide +kernel)
set_option maxRecDepth 20000 in
theorem gL_law_X4_init : GoodIn wsL_law (wsX4_init) := ggL_law_X4_init
set_option maxRecDepth 20000 in
theorem ggL_law_X5_init : GoodIn wsL_law wsX5_init := goodIn_r _ [72, 73, 10, 11, 41, 74, 75, 76, 77, 78, 79, 80, 81, 82, 643, 644, 645, 646, 647, 648, 649, 650, 651, 652, 653, 654, 655, 656, 657, 658] (by decide +kernel) (by decide +kernel)
set_option maxRecDepth 20000 in
theorem gL_law_X5_init : GoodIn wsL_law (wsX5_init) := ggL_law_X5_init
set_option maxRecDepth 20000 in
theorem ggL_law_X4_span : GoodIn wsL_law wsX4_span := goodIn_r _ [86, 15, 87, 88, 89, 2, 90, 16, 91, 92, 93, 14, 94, 39, 40, 42, 44, 45, 46, 47, 43, 95, 96, 97, 98, 99, 100, 101, 102, 103, 104, 105, 106, 107, 108, 109, 110, 17, 18, 19, 111, 112, 113, 114, 115, 116, 117, 118, 119, 120, 121, 122, 123, 124, 20, 21, 22, 632, 633, 634, 635, 636, 637, 638, 639, 640, 641, 642, 659, 660, 661, 662] (by decide +kernel) (by decide +kernel)
set_option maxRecDepth 20000 in
theorem gL_law_X4_span : GoodIn wsL_law (wsV RL 13 RX4 yX4_span wsX4_span) := goodIn_app (goodIn_of _ (by decide +kernel)) ggL_law_X4_span
set_option maxRecDepth 20000 in
theorem ggL_law_X5_span : GoodIn wsL_law wsX5_span := goodIn_r _ [128, 129, 130, 131, 5, 132, 81, 133, 134, 135, 136, 137, 138, 139, 140, 141, 74, 142, 143, 144, 145, 146, 147, 148, 149, 150, 151, 152, 153, 154, 155, 156, 157, 158, 159, 160, 161, 162, 163, 164, 165, 166, 167, 168, 169, 170, 171, 172, 173, 174, 175, 176, 177, 178, 179, 180, 77, 181, 182, 183, 184, 185, 76, 186, 187, 188, 189, 190, 191, 192, 193, 194, 195, 196, 197, 198, 199, 643, 644, 645, 646, 647, 648, 649, 650, 651, 652, 653, 654, 655, 656, 657, 658] (by decide +kernel) (by decide +kernel)
set_option maxRecDepth 20000 in
theorem gL_law_X5_span : GoodIn wsL_law (wsV RL 17 RX5 yX5_span wsX5_span) := goodIn_app (goodIn_of _ (by decide +kernel)) ggL_law_X5_span
set_option maxRecDepth 20000 in
theorem ggL_law_X4_cuts : GoodIn wsL_law wsX4_cuts := goodIn_r _ [203, 15, 87, 88, 89, 2, 90, 16, 91, 92, 93, 14, 94, 39, 40, 42, 44, 45, 46, 47, 43, 204, 205, 206, 207, 208, 107, 108, 109, 110, 17, 18, 19, 111, 112, 113, 114, 115, 116, 117, 118, 119, 120, 121, 122, 123, 124, 20, 21, 22, 632, 633, 634, 635, 636, 637, 638, 639, 640, 641, 642, 659, 660, 661, 662] (by decide +kernel) (by decide +kernel)
set_option maxRecDepth 20000 in
theorem gL_law_X4_cuts : GoodIn wsL_law (wsV RL 18 RX4 yX4_cuts wsX4_cuts) := goodIn_app (goodIn_of _ (by decide +kernel)) ggL_law_X4_cuts
set_option maxRecDepth 20000 in
theorem ggL_law_X5_cuts : GoodIn wsL_law wsX5_cuts := goodIn_r _ [212, 133, 134, 135, 5, 136, 137, 138, 139, 140, 81, 141, 74, 142, 143, 144, 145, 146, 147, 148, 149, 150, 151, 152, 153, 154, 155, 156, 157, 158, 159, 160, 161, 162, 163, 164, 165, 166, 167, 168, 169, 170, 171, 172, 173, 174, 175, 176, 177, 178, 179, 180, 77, 181, 182, 183, 184, 185, 76, 186, 187, 188, 189, 190, 191, 192, 193, 194, 195, 196, 197, 198, 199, 643, 644, 645, 646, 647, 648, 649, 650, 651, 652, 653, 654, 655, 656, 657, 658] (by decide +kernel) (by decide +kernel)
set_option maxRecDepth 20000 in
theorem gL_law_X5_cuts : GoodIn wsL_law (wsV RL 22 RX5 yX5_cuts wsX5_cuts) := goodIn_app (goodIn_of _ (by decide +kernel)) ggL_law_X5_cuts
set_option maxRecDepth 20000 in
theorem ggL_law_X4_sets : GoodIn wsL_law wsX4_sets := goodIn_r _ [216, 15, 87, 88, 89, 2, 90, 16, 91, 92, 93, 14, 94, 39, 40, 42, 44, 45, 46, 47, 43, 217, 218, 219, 220, 99, 101, 102, 107, 108, 109, 110, 17, 18, 19, 111, 112, 113, 114, 115, 116, 117, 118, 119, 120, 121, 122, 123, 124, 20, 21, 22, 632, 633, 634, 635, 636, 637, 638, 639, 640, 641, 642, 659, 660, 661, 662] (by decide +kernel) (by decide +kernel)
set_option maxRecDepth 20000 in
theorem gL_law_X4_sets : GoodIn wsL_law (wsV RL 23 RX4 yX4_sets wsX4_sets) := goodIn_app (goodIn_of _ (by decide +kernel)) ggL_law_X4_sets
set_option maxRecDepth 20000 in
theorem ggL_law_X5_sets : GoodIn wsL_law wsX5_sets := goodIn_r _ [224, 129, 130, 131, 5, 132, 81, 133, 134, 135, 136, 137, 138, 139, 140, 141, 74, 142, 143, 144, 145, 146, 147, 148, 149, 150, 151, 152, 153, 154, 155, 156, 157, 158, 159, 160, 161, 162, 163, 164, 165, 166, 167, 168, 169, 170, 171, 172, 173, 174, 175, 176, 177, 178, 179, 180, 77, 181, 182, 183, 184, 185, 76, 186, 187, 188, 189, 190, 191, 192, 193, 194, 195, 196, 197, 198, 199, 643, 644, 645, 646, 647, 648, 649, 650, 651, 652, 653, 654, 655, 656, 657, 658] (by decide +kernel) (by decide +kernel)
set_option maxRecDepth 20000 in
theorem gL_law_X5_sets : GoodIn wsL_law (wsV RL 27 RX5 yX5_sets wsX5_sets) := goodIn_app (goodIn_of _ (by decide +kernel)) ggL_law_X5_sets
set_option maxRecDepth 20000 in
theorem ggL_law_X4_pumps : GoodIn wsL_law wsX4_pumps := goodIn_r _ [228, 15, 87, 88, 89, 2, 90, 16, 91, 92, 93, 14, 94, 39, 40, 42, 44, 45, 46, 47, 43, 229, 230, 231, 232, 99, 233, 234, 235, 236, 101, 102, 237, 238, 239, 240, 241, 242, 243, 107, 108, 109, 110, 17, 18, 19, 111, 112, 113, 114, 115, 116, 117, 118, 119, 120, 121, 122, 123, 124, 20, 21, 22, 632, 633, 634, 635, 636, 637, 638, 639, 640, 641, 642, 659, 660, 661, 662] (by decide +kernel) (by decide +kernel)
set_option maxRecDepth 20000 in
theorem gL_law_X4_pumps : GoodIn wsL_law (wsV RL 28 RX4 yX4_pumps wsX4_pumps) := goodIn_app (goodIn_of _ (by decide +kernel)) ggL_law_X4_pumps
set_option maxRecDepth 20000 in
theorem ggL_law_X5_pumps : GoodIn wsL_law wsX5_pumps := goodIn_r _ [247, 129, 130, 131, 5, 132, 81, 133, 134, 135, 136, 137, 138, 139, 140, 141, 74, 142, 143, 144, 145, 146, 147, 148, 149, 150, 151, 152, 153, 154, 155, 156, 157, 158, 159, 160, 161, 162, 163, 164, 165, 166, 167, 168, 169, 170, 171, 172, 173, 174, 175, 176, 177, 178, 179, 180, 77, 181, 182, 183, 184, 185, 76, 186, 187, 188, 189, 190, 191, 192, 193, 194, 195, 196, 197, 198, 199, 643, 644, 645, 646, 647, 648, 649, 650, 651, 652, 653, 654, 655, 656, 657, 658] (by decide +kernel) (by decide +kernel)
set_option maxRecDepth 20000 in
theorem gL_law_X5_pumps : GoodIn wsL_law (wsV RL 32 RX5 yX5_pumps wsX5_pumps) := goodIn_app (goodIn_of _ (by decide +kernel)) ggL_law_X5_pumps
set_option maxRecDepth 20000 in
theorem ggL_law_X4_bursts : GoodIn wsL_law wsX4_bursts := goodIn_r _ [251, 15, 87, 88, 89, 2, 90, 16, 91, 92, 93, 14, 94, 39, 40, 42, 44, 45, 46, 47, 43, 252, 253, 254, 255, 99, 256, 257, 258, 259, 101, 102, 260, 261, 262, 263, 103, 104, 105, 106, 107, 108, 109, 110, 17, 18, 19, 111, 112, 113, 114, 115, 116, 117, 118, 119, 120, 121, 122, 123, 124, 20, 21, 22, 632, 633, 634, 635, 636, 637, 638, 639, 640, 641, 642, 659, 660, 661, 662] (by decide +kernel) (by decide +kernel)
set_option maxRecDepth 20000 in
theorem gL_law_X4_bursts : GoodIn wsL_law (wsV RL 33 RX4 yX4_bursts wsX4_bursts) := goodIn_app (goodIn_of _ (by decide +kernel)) ggL_law_X4_bursts
set_option maxRecDepth 20000 in
theorem ggL_law_X5_bursts : GoodIn wsL_law wsX5_bursts := goodIn_r _ [267, 129, 130, 131, 5, 132, 81, 133, 134, 135, 136, 137, 138, 139, 140, 141, 74, 142, 143, 144, 145, 146, 147, 148, 149, 150, 151, 152, 153, 154, 155, 156, 157, 158, 159, 160, 161, 162, 163, 164, 165, 166, 167, 168, 169, 170, 171, 172, 173, 174, 175, 176, 177, 178, 179, 180, 77, 181, 182, 183, 184, 185, 76, 186, 187, 188, 189, 190, 191, 192, 193, 194, 195, 196, 197, 198, 199, 643, 644, 645, 646, 647, 648, 649, 650, 651, 652, 653, 654, 655, 656, 657, 658] (by decide +kernel) (by decide +kernel)
set_option maxRecDepth 20000 in
theorem gL_law_X5_bursts : GoodIn wsL_law (wsV RL 36 RX5 yX5_bursts wsX5_bursts) := goodIn_app (goodIn_of _ (by decide +kernel)) ggL_law_X5_bursts
set_option maxRecDepth 20000 in
theorem ggL_law_X4_mends : GoodIn wsL_law wsX4_mends := goodIn_r _ [271, 15, 87, 88, 89, 2, 90, 16, 91, 92, 93, 14, 94, 39, 40, 42, 44, 45, 46, 47, 43, 272, 273, 274, 275, 99, 208, 256, 257, 258, 259, 101, 102, 260, 261, 262, 263, 276, 277, 278, 279, 103, 104, 105, 106, 107, 108, 109, 110, 17, 18, 19, 111, 112, 113, 114, 115, 116, 117, 118, 119, 120, 121, 122, 123, 124, 20, 21, 22, 632, 633, 634, 635, 636, 637, 638, 639, 640, 641, 642, 659, 660, 661, 662] (by decide +kernel) (by decide +kernel)
set_option maxRecDepth 20000 in
theorem gL_law_X4_mends : GoodIn wsL_law (wsV RL 37 RX4 yX4_mends wsX4_mends) := goodIn_app (goodIn_of _ (by decide +kernel)) ggL_law_X4_mends
set_option maxRecDepth 20000 in
theorem ggL_law_X5_mends : GoodIn wsL_law wsX5_mends := goodIn_r _ [283, 129, 130, 131, 5, 132, 81, 133, 134, 135, 136, 137, 138, 139, 140, 141, 74, 142, 143, 144, 145, 146, 147, 148, 149, 150, 151, 152, 153, 154, 155, 156, 157, 158, 159, 160, 161, 162, 163, 164, 165, 166, 167, 168, 169, 170, 171, 172, 173, 174, 175, 176, 177, 178, 179, 180, 77, 181, 182, 183, 184, 185, 76, 186, 187, 188, 189, 190, 191, 192, 193, 194, 195, 196, 197, 198, 199, 643, 644, 645, 646, 647, 648, 649, 650, 651, 652, 653, 654, 655, 656, 657, 658] (by decide +kernel) (by decide +kernel)
set_option maxRecDepth 20000 in
theorem gL_law_X5_mends : GoodIn wsL_law (wsV RL 40 RX5 yX5_mends wsX5_mends) := goodIn_app (goodIn_of _ (by decide +kernel)) ggL_law_X5_mends
set_option maxRecDepth 20000 in
theorem ggL_law_X4_lays : GoodIn wsL_law wsX4_lays := goodIn_r _ [287, 34, 15, 288, 289, 119, 290, 291, 292, 293, 33, 294, 69, 295, 296, 297, 298, 299, 300, 301, 302, 303, 304, 305, 306, 112, 113, 114, 307, 308, 309, 14, 310, 260, 261, 262, 263, 42, 311, 312, 313, 314, 315, 121, 122, 123, 2, 124, 20, 21, 22, 87, 88, 89, 90, 16, 91, 92, 93, 94, 39, 40, 44, 45, 46, 47, 43, 316, 317, 318, 319, 320, 321, 107, 108, 109, 110, 17, 18, 19, 111, 115, 116, 117, 118, 120, 632, 633, 634, 635, 636, 637, 638, 639, 640, 641, 642, 659, 660, 661, 662, 673] (by decide +kernel) (by decide +kernel)
set_option maxRecDepth 20000 in
theorem gL_law_X4_lays : GoodIn wsL_law (wsV RL 41 RX4 yX4_lays wsX4_lays) := goodIn_app (goodIn_of _ (by decide +kernel)) ggL_law_X4_lays
set_option maxRecDepth 20000 in
theorem ggL_law_X5_lays : GoodIn wsL_law wsX5_lays := goodIn_r _ [325, 74, 142, 326, 327, 328, 329, 5, 330, 331, 197, 198, 199, 332, 333, 334, 335, 79, 80, 336, 337, 338, 339, 340, 341, 342, 343, 344, 345, 346, 347, 348, 349, 169, 170, 171, 172, 350, 351, 352, 353, 354, 355, 356, 357, 358, 359, 177, 178, 179, 180, 77, 141, 181, 182, 183, 184, 185, 76, 186, 187, 188, 643, 644, 645, 646, 647, 648, 649, 650, 651, 652, 653, 654, 655, 656, 657, 658] (by decide +kernel) (by decide +kernel)
set_option maxRecDepth 20000 in
theorem gL_law_X5_lays : GoodIn wsL_law (wsV RL 44 RX5 yX5_lays wsX5_lays) := goodIn_app (goodIn_of _ (by decide +kernel)) ggL_law_X5_lays
set_option maxRecDepth 20000 in
theorem ggL_law_X4_of : GoodIn wsL_law wsX4_of := goodIn_r _ [363, 15, 118, 364, 257, 258, 14, 259, 39, 101, 2, 102, 365, 121, 122, 123, 124, 20, 21, 22, 366, 261, 262, 263, 42, 632, 633, 634, 635, 636, 637, 638, 639, 640, 641, 642, 659, 660, 661, 662] (by decide +kernel) (by decide +kernel)
set_option maxRecDepth 20000 in
theorem gL_law_X4_of : GoodIn wsL_law (wsV RL 45 RX4 yX4_of wsX4_of) := goodIn_app (goodIn_of _ (by decide +kernel)) ggL_law_X4_of
set_option maxRecDepth 20000 in
theorem ggL_law_X5_of : GoodIn wsL_law wsX5_of := goodIn_r _ [370, 141, 161, 162, 163, 5, 164, 74, 148, 149, 150, 169, 170, 171, 172, 177, 178, 179, 180, 77, 643, 644, 645, 646, 647, 648, 649, 650, 651, 652, 653, 654, 655, 656, 657, 658] (by decide +kernel) (by decide +kernel)
set_option maxRecDepth 20000 in
theorem gL_law_X5_of : GoodIn wsL_law (wsV RL 48 RX5 yX5_of wsX5_of) := goodIn_app (goodIn_of _ (by decide +kernel)) ggL_law_X5_of
set_option maxRecDepth 20000 in
theorem ggL_law_X4_loss : GoodIn wsL_law wsX4_loss := goodIn_r _ [374, 15, 118, 364, 257, 258, 14, 259, 39, 101, 2, 102, 365, 121, 122, 123, 124, 20, 21, 22, 375, 312, 313, 314, 260, 261, 262, 263, 42, 632, 633, 634, 635, 636, 637, 638, 639, 640, 641, 642, 659, 660, 661, 662] (by decide +kernel) (by decide +kernel)
set_option maxRecDepth 20000 in
theorem gL_law_X4_loss : GoodIn wsL_law (wsV RL 49 RX4 yX4_loss wsX4_loss) := goodIn_app (goodIn_of _ (by decide +kernel)) ggL_law_X4_loss
set_option maxRecDepth 20000 in
theorem ggL_law_X5_loss : GoodIn wsL_law wsX5_loss := goodIn_r _ [379, 141, 161, 162, 163, 5, 164, 74, 148, 149, 150, 353, 354, 355, 356, 169, 170, 171, 172, 357, 358, 359, 177, 178, 179, 180, 77, 643, 644, 645, 646, 647, 648, 649, 650, 651, 652, 653, 654, 655, 656, 657, 658] (by decide +kernel) (by decide +kernel)
set_option maxRecDepth 20000 in
theorem gL_law_X5_loss : GoodIn wsL_law (wsV RL 52 RX5 yX5_loss wsX5_loss) := goodIn_app (goodIn_of _ (by decide +kernel)) ggL_law_X5_loss
set_option maxRecDepth 20000 in
theorem ggL_law_X4_node : GoodIn wsL_law wsX4_node := goodIn_r _ [383, 15, 118, 30, 288, 384, 385, 386, 234, 235, 14, 236, 39, 101, 2, 102, 365, 121, 122, 123, 124, 20, 21, 22, 387, 388, 389, 29, 390, 64, 61, 65, 62, 63, 391, 392, 393, 299, 300, 301, 394, 395, 396, 397, 398, 399, 113, 400, 401, 402, 403, 404, 40, 405, 308, 309, 310, 260, 261, 262, 263, 42, 311, 312, 313, 314, 406, 632, 633, 634, 635, 636, 637, 638, 639, 640, 641, 642, 659, 660, 661, 662, 669, 670, 671, 672] (by decide +kernel) (by decide +kernel)
set_option maxRecDepth 20000 in
theorem gL_law_X4_node : GoodIn wsL_law (wsV RL 53 RX4 yX4_node wsX4_node) := goodIn_app (goodIn_of _ (by decide +kernel)) ggL_law_X4_node
set_option maxRecDepth 20000 in
theorem ggL_law_X5_node : GoodIn wsL_law wsX5_node := goodIn_r _ [410, 141, 74, 79, 80, 157, 158, 159, 5, 160, 148, 149, 150, 177, 178, 179, 180, 77, 332, 333, 334, 335, 331, 336, 337, 338, 339, 340, 341, 342, 343, 344, 345, 346, 347, 348, 349, 169, 170, 171, 172, 350, 351, 352, 353, 354, 355, 356, 357, 358, 359, 643, 644, 645, 646, 647, 648, 649, 650, 651, 652, 653, 654, 655, 656, 657, 658] (by decide +kernel) (by decide +kernel)
set_option maxRecDepth 20000 in
theorem gL_law_X5_node : GoodIn wsL_law (wsV RL 56 RX5 yX5_node wsX5_node) := goodIn_app (goodIn_of _ (by decide +kernel)) ggL_law_X5_node
set_option maxRecDepth 20000 in
theorem ggL_law_X4_run : GoodIn wsL_law wsX4_run := goodIn_r _ [414, 118, 30, 15, 288, 415, 416, 385, 417, 365, 101, 2, 102, 121, 122, 123, 124, 20, 21, 22, 387, 388, 389, 29, 390, 64, 61, 65, 62, 63, 391, 392, 393, 299, 300, 301, 394, 395, 396, 397, 398, 399, 113, 400, 401, 402, 403, 14, 404, 40, 405, 308, 309, 310, 260, 261, 262, 263, 42, 311, 312, 313, 314, 406, 632, 633, 634, 635, 636, 637, 638, 639, 640, 641, 642, 659, 660, 661, 662, 669, 670, 671, 672] (by decide +kernel) (by decide +kernel)
set_option maxRecDepth 20000 in
theorem gL_law_X4_run : GoodIn wsL_law (wsV RL 57 RX4 yX4_run wsX4_run) := goodIn_app (goodIn_of _ (by decide +kernel)) ggL_law_X4_run
set_option maxRecDepth 20000 in
theorem ggL_law_X5_run : GoodIn wsL_law wsX5_run := goodIn_r _ [421, 141, 148, 149, 5, 150, 422, 423, 424, 425, 74, 331, 336, 337, 338, 332, 333, 334, 335, 79, 80, 339, 340, 341, 342, 343, 344, 345, 346, 347, 348, 349, 169, 170, 171, 172, 350, 351, 352, 353, 354, 355, 356, 357, 358, 359, 177, 178, 179, 180, 77, 643, 644, 645, 646, 647, 648, 649, 650, 651, 652, 653, 654, 655, 656, 657, 658] (by decide +kernel) (by decide +kernel)
set_option maxRecDepth 20000 in
theorem gL_law_X5_run : GoodIn wsL_law (wsV RL 60 RX5 yX5_run wsX5_run) := goodIn_app (goodIn_of _ (by decide +kernel)) ggL_law_X5_run
set_option maxRecDepth 20000 in
theorem ggL_law_X4_fewest : GoodIn wsL_law wsX4_fewest := goodIn_r _ [429, 118, 34, 15, 289, 430, 365, 101, 2, 102, 121, 122, 123, 124, 20, 21, 22, 291, 292, 293, 33, 294, 69, 295, 296, 297, 298, 299, 300, 301, 302, 303, 304, 305, 306, 112, 113, 114, 307, 308, 309, 14, 310, 260, 261, 262, 263, 42, 311, 312, 313, 314, 315, 319, 320, 321, 316, 317, 318, 632, 633, 634, 635, 636, 637, 638, 639, 640, 641, 642, 673, 659, 660, 661, 662] (by decide +kernel) (by decide +kernel)
set_option maxRecDepth 20000 in
theorem gL_law_X4_fewest : GoodIn wsL_law (wsV RL 61 RX4 yX4_fewest wsX4_fewest) := goodIn_app (goodIn_of _ (by decide +kernel)) ggL_law_X4_fewest
set_option maxRecDepth 20000 in
theorem ggL_law_X5_fewest : GoodIn wsL_law wsX5_fewest := goodIn_r _ [434, 141, 148, 149, 5, 150, 435, 436, 437, 438, 331, 326, 327, 328, 329, 330, 74, 197, 198, 199, 332, 333, 334, 335, 79, 80, 336, 337, 338, 339, 340, 341, 342, 343, 344, 345, 346, 347, 348, 349, 169, 170, 171, 172, 350, 351, 352, 353, 354, 355, 356, 357, 358, 359, 177, 178, 179, 180, 77, 643, 644, 645, 646, 647, 648, 649, 650, 651, 652, 653, 654, 655, 656, 657, 658] (by decide +kernel) (by decide +kernel)
set_option maxRecDepth 20000 in
theorem gL_law_X5_fewest : GoodIn wsL_law (wsV RL 64 RX5 yX5_fewest wsX5_fewest) := goodIn_app (goodIn_of _ (by decide +kernel)) ggL_law_X5_fewest
set_option maxRecDepth 20000 in
theorem ggL_law_X4_most : GoodIn wsL_law wsX4_most := goodIn_r _ [442, 30, 15, 416, 430, 387, 388, 389, 29, 390, 64, 61, 65, 62, 63, 391, 392, 393, 299, 300, 301, 394, 395, 396, 397, 398, 399, 113, 400, 401, 402, 403, 14, 404, 40, 405, 308, 309, 310, 260, 261, 262, 263, 42, 311, 312, 313, 314, 406, 632, 633, 634, 635, 636, 637, 638, 639, 640, 641, 642, 669, 670, 671, 672, 659, 660, 661, 662] (by decide +kernel) (by decide +kernel)
set_option maxRecDepth 20000 in
theorem gL_law_X4_most : GoodIn wsL_law (wsV RL 65 RX4 yX4_most wsX4_most) := goodIn_app (goodIn_of _ (by decide +kernel)) ggL_law_X4_most
set_option maxRecDepth 20000 in
theorem ggL_law_X5_most : GoodIn wsL_law wsX5_most := goodIn_r _ [446, 447, 448, 449, 5, 450, 331, 74, 332, 333, 334, 335, 79, 80, 336, 337, 338, 339, 340, 341, 342, 343, 344, 345, 346, 347, 348, 349, 169, 170, 171, 172, 350, 351, 352, 353, 354, 355, 356, 357, 358, 359, 643, 644, 645, 646, 647, 648, 649, 650, 651, 652, 653, 654, 655, 656, 657, 658] (by decide +kernel) (by decide +kernel)
set_option maxRecDepth 20000 in
theorem gL_law_X5_most : GoodIn wsL_law (wsV RL 68 RX5 yX5_most wsX5_most) := goodIn_app (goodIn_of _ (by decide +kernel)) ggL_law_X5_most
set_option maxRecDepth 20000 in
theorem ggL_law_X4_count : GoodIn wsL_law wsX4_count := goodIn_r _ [454, 118, 15, 290, 417, 288, 365, 101, 2, 102, 121, 122, 123, 124, 20, 21, 22, 455, 238, 239, 240, 241, 242, 243, 456, 457, 458, 14, 459, 39, 260, 261, 262, 263, 42, 460, 461, 462, 463, 276, 277, 278, 279, 632, 633, 634, 635, 636, 637, 638, 639, 640, 641, 642, 659, 660, 661, 662] (by decide +kernel) (by decide +kernel)
set_option maxRecDepth 20000 in
theorem gL_law_X4_count : GoodIn wsL_law (wsV RL 69 RX4 yX4_count wsX4_count) := goodIn_app (goodIn_of _ (by decide +kernel)) ggL_law_X4_count
set_option maxRecDepth 20000 in
theorem ggL_law_X5_count : GoodIn wsL_law wsX5_count := goodIn_r _ [467, 141, 148, 149, 5, 150, 468, 469, 470, 471, 74, 169, 170, 171, 172, 173, 174, 175, 176, 197, 198, 199, 177, 178, 179, 180, 77, 643, 644, 645, 646, 647, 648, 649, 650, 651, 652, 653, 654, 655, 656, 657, 658] (by decide +kernel) (by decide +kernel)
set_option maxRecDepth 20000 in
theorem gL_law_X5_count : GoodIn wsL_law (wsV RL 72 RX5 yX5_count wsX5_count) := goodIn_app (goodIn_of _ (by decide +kernel)) ggL_law_X5_count
set_option maxRecDepth 20000 in
theorem ggL_law_X4_shuttle : GoodIn wsL_law wsX4_shuttle := goodIn_r _ [475, 118, 365, 101, 2, 102, 476, 477, 478, 121, 122, 123, 124, 20, 21, 22, 479, 480, 481, 111, 112, 113, 114, 632, 633, 634, 635, 636, 637, 638, 639, 640, 641, 642] (by decide +kernel) (by decide +kernel)
set_option maxRecDepth 20000 in
theorem gL_law_X4_shuttle : GoodIn wsL_law (wsV RL 73 RX4 yX4_shuttle wsX4_shuttle) := goodIn_app (goodIn_of _ (by decide +kernel)) ggL_law_X4_shuttle
set_option maxRecDepth 20000 in
theorem ggL_law_X5_shuttle : GoodIn wsL_law wsX5_shuttle := goodIn_r _ [485, 141, 148, 149, 5, 150, 486, 487, 488, 489, 490, 491, 177, 178, 179, 180, 77, 643, 644, 645, 646, 647, 648, 649, 650, 651, 652, 653, 654, 655, 656, 657, 658] (by decide +kernel) (by decide +kernel)
set_option maxRecDepth 20000 in
theorem gL_law_X5_shuttle : GoodIn wsL_law (wsV RL 77 RX5 yX5_shuttle wsX5_shuttle) := goodIn_app (goodIn_of _ (by decide +kernel)) ggL_law_X5_shuttle
set_option maxRecDepth 20000 in
theorem ggL_law_X4_tanks : GoodIn wsL_law wsX4_tanks := goodIn_r _ [495, 118, 430, 365, 101, 2, 102, 476, 477, 478, 121, 122, 123, 124, 20, 21, 22, 479, 480, 481, 111, 112, 113, 114, 632, 633, 634, 635, 636, 637, 638, 639, 640, 641, 642] (by decide +kernel) (by decide +kernel)
set_option maxRecDepth 20000 in
theorem gL_law_X4_tanks : GoodIn wsL_law (wsV RL 78 RX4 yX4_tanks wsX4_tanks) := goodIn_app (goodIn_of _ (by decide +kernel)) ggL_law_X4_tanks
set_option maxRecDepth 20000 in
theorem ggL_law_X5_tanks : GoodIn wsL_law wsX5_tanks := goodIn_r _ [499, 141, 331, 148, 149, 5, 150, 486, 487, 488, 177, 178, 179, 180, 77, 489, 490, 491, 643, 644, 645, 646, 647, 648, 649, 650, 651, 652, 653, 654, 655, 656, 657, 658] (by decide +kernel) (by decide +kernel)
set_option maxRecDepth 20000 in
theorem gL_law_X5_tanks : GoodIn wsL_law (wsV RL 81 RX5 yX5_tanks wsX5_tanks) := goodIn_app (goodIn_of _ (by decide +kernel)) ggL_law_X5_tanks
set_option maxRecDepth 20000 in
theorem ggL_law_X4_type : GoodIn wsL_law wsX4_type := goodIn_r _ [503, 118, 26, 504, 120, 365, 101, 2, 102, 121, 122, 123, 124, 20, 21, 22, 505, 506, 507, 25, 508, 56, 51, 632, 633, 634, 635, 636, 637, 638, 639, 640, 641, 642, 663, 664, 665, 666, 667, 668] (by decide +kernel) (by decide +kernel)
set_option maxRecDepth 20000 in
theorem gL_law_X4_type : GoodIn wsL_law (wsV RL 82 RX4 yX4_type wsX4_type) := goodIn_app (goodIn_of _ (by decide +kernel)) ggL_law_X4_type
set_option maxRecDepth 20000 in
theorem ggL_law_X5_type : GoodIn wsL_law wsX5_type := goodIn_r _ [512, 141, 513, 147, 78, 148, 149, 5, 150, 177, 178, 179, 180, 77, 643, 644, 645, 646, 647, 648, 649, 650, 651, 652, 653, 654, 655, 656, 657, 658] (by decide +kernel) (by decide +kernel)
set_option maxRecDepth 20000 in
theorem gL_law_X5_type : GoodIn wsL_law (wsV RL 85 RX5 yX5_type wsX5_type) := goodIn_app (goodIn_of _ (by decide +kernel)) ggL_law_X5_type
set_option maxRecDepth 20000 in
theorem ggL_law_X4_clear : GoodIn wsL_law wsX4_clear := goodIn_r _ [517, 26, 504, 632, 633, 634, 635, 636, 637, 638, 639, 640, 641, 642, 663, 664, 665, 666, 667, 668] (by decide +kernel) (by decide +kernel)
set_option maxRecDepth 20000 in
theorem gL_law_X4_clear : GoodIn wsL_law (wsV RL 86 RX4 yX4_clear wsX4_clear) := goodIn_app (goodIn_of _ (by decide +kernel)) ggL_law_X4_clear
set_option maxRecDepth 20000 in
theorem ggL_law_X5_clear : GoodIn wsL_law wsX5_clear := goodIn_r _ [521, 513, 643, 644, 645, 646, 647, 648, 649, 650, 651, 652, 653, 654, 655, 656, 657, 658] (by decide +kernel) (by decide +kernel)
set_option maxRecDepth 20000 in
theorem gL_law_X5_clear : GoodIn wsL_law (wsV RL 89 RX5 yX5_clear wsX5_clear) := goodIn_app (goodIn_of _ (by decide +kernel)) ggL_law_X5_clear
set_option maxRecDepth 20000 in
theorem ggL_law_X4_does : GoodIn wsL_law wsX4_does := goodIn_r _ [525, 26, 526, 527, 15, 16, 528, 529, 530, 25, 531, 52, 53, 51, 532, 533, 534, 535, 56, 536, 537, 538, 539, 55, 540, 541, 542, 543, 544, 545, 546, 547, 548, 549, 550, 57, 551, 552, 553, 554, 101, 2, 102, 87, 88, 89, 90, 91, 92, 93, 14, 94, 39, 40, 42, 44, 45, 46, 47, 43, 555, 556, 557, 558, 559, 560, 561, 562, 563, 95, 96, 97, 98, 99, 100, 103, 104, 105, 106, 217, 218, 219, 220, 229, 230, 231, 232, 233, 234, 235, 236, 237, 238, 239, 240, 241, 242, 243, 252, 253, 254, 255, 256, 257, 258, 259, 260, 261, 262, 263, 272, 273, 274, 275, 208, 276, 277, 278, 279, 204, 205, 206, 207, 115, 116, 117, 118, 119, 120, 107, 108, 109, 110, 17, 18, 19, 111, 112, 113, 114, 121, 122, 123, 124, 20, 21, 22, 632, 633, 634, 635, 636, 637, 638, 639, 640, 641, 642, 663, 664, 665, 666, 667, 668, 659, 660, 661, 662] (by decide +kernel) (by decide +kernel)
set_option maxRecDepth 20000 in
theorem gL_law_X4_does : GoodIn wsL_law (wsV RL 90 RX4 yX4_does wsX4_does) := goodIn_app (goodIn_of _ (by decide +kernel)) ggL_law_X4_does
set_option maxRecDepth 20000 in
theorem ggL_law_X5_does : GoodIn wsL_law wsX5_does := goodIn_r _ [567, 331, 74, 75, 568, 513, 78, 82, 569, 570, 571, 5, 572, 573, 574, 575, 576, 577, 578, 579, 580, 581, 582, 583, 584, 585, 586, 587, 81, 588, 589, 590, 591, 148, 149, 150, 186, 187, 188, 137, 138, 139, 140, 141, 142, 143, 144, 145, 146, 147, 151, 152, 153, 154, 155, 156, 157, 158, 159, 160, 161, 162, 163, 164, 165, 166, 167, 168, 169, 170, 171, 172, 173, 174, 175, 176, 189, 190, 191, 192, 193, 194, 195, 196, 197, 198, 199, 181, 182, 183, 184, 185, 76, 643, 644, 645, 646, 647, 648, 649, 650, 651, 652, 653, 654, 655, 656, 657, 658] (by decide +kernel) (by decide +kernel)
set_option maxRecDepth 20000 in
theorem gL_law_X5_does : GoodIn wsL_law (wsV RL 93 RX5 yX5_does wsX5_does) := goodIn_app (goodIn_of _ (by decide +kernel)) ggL_law_X5_does
set_option maxRecDepth 20000 in
theorem ggL_law_X4_back : GoodIn wsL_law wsX4_back := goodIn_r _ [595, 19, 119, 18, 15, 17, 121, 122, 123, 2, 124, 20, 21, 22, 91, 92, 93, 14, 94, 39, 40, 42, 44, 45, 46, 47, 43, 632, 633, 634, 635, 636, 637, 638, 639, 640, 641, 642, 659, 660, 661, 662] (by decide +kernel) (by decide +kernel)
set_option maxRecDepth 20000 in
theorem gL_law_X4_back : GoodIn wsL_law (wsV RL 94 RX4 yX4_back wsX4_back) := goodIn_app (goodIn_of _ (by decide +kernel)) ggL_law_X4_back
set_option maxRecDepth 20000 in
theorem ggL_law_X5_back : GoodIn wsL_law wsX5_back := goodIn_r _ [599, 185, 142, 76, 74, 177, 178, 179, 5, 180, 77, 141, 186, 187, 188, 643, 644, 645, 646, 647, 648, 649, 650, 651, 652, 653, 654, 655, 656, 657, 658] (by decide +kernel) (by decide +kernel)
set_option maxRecDepth 20000 in
theorem gL_law_X5_back : GoodIn wsL_law (wsV RL 97 RX5 yX5_back wsX5_back) := goodIn_app (goodIn_of _ (by decide +kernel)) ggL_law_X5_back
set_option maxRecDepth 20000 in
theorem ggL_law_X4_told : GoodIn wsL_law wsX4_told := goodIn_r _ [603, 20, 21, 22, 26, 504, 19, 118, 121, 122, 123, 2, 124, 632, 633, 634, 635, 636, 637, 638, 639, 640, 641, 642, 663, 664, 665, 666, 667, 668] (by decide +kernel) (by decide +kernel)
set_option maxRecDepth 20000 in
theorem gL_law_X4_told : GoodIn wsL_law (wsV RL 98 RX4 yX4_told wsX4_told) := goodIn_app (goodIn_of _ (by decide +kernel)) ggL_law_X4_told
set_option maxRecDepth 20000 in
theorem ggL_law_X5_told : GoodIn wsL_law wsX5_told := goodIn_r _ [607, 141, 148, 149, 5, 150, 608, 609, 610, 611, 77, 513, 185, 177, 178, 179, 180, 643, 644, 645, 646, 647, 648, 649, 650, 651, 652, 653, 654, 655, 656, 657, 658] (by decide +kernel) (by decide +kernel)
set_option maxRecDepth 20000 in
theorem gL_law_X5_told : GoodIn wsL_law (wsV RL 101 RX5 yX5_told wsX5_told) := goodIn_app (goodIn_of _ (by decide +kernel)) ggL_law_X5_told
set_option maxRecDepth 20000 in
theorem ggL_law_X4_digest : GoodIn wsL_law wsX4_digest := goodIn_r _ [615, 15, 288, 616, 617, 417, 618, 601, 602, 2, 603, 20, 21, 22, 26, 504, 19, 118, 121, 122, 123, 124, 619, 452, 453, 454, 290, 365, 101, 102, 455, 238, 239, 240, 241, 242, 243, 456, 457, 458, 14, 459, 39, 260, 261, 262, 263, 42, 460, 461, 462, 463, 276, 277, 278, 279, 620, 361, 362, 363, 364, 257, 258, 259, 366, 621, 372, 373, 374, 375, 312, 313, 314, 622, 381, 382, 383, 30, 384, 385, 386, 234, 235, 236, 387, 388, 389, 29, 390, 64, 61, 65, 62, 63, 391, 392, 393, 299, 300, 301, 394, 395, 396, 397, 398, 399, 113, 400, 401, 402, 403, 404, 40, 405, 308, 309, 310, 311, 406, 623, 412, 413, 414, 415, 416, 624, 427, 428, 429, 34, 289, 430, 291, 292, 293, 33, 294, 69, 295, 296, 297, 298, 302, 303, 304, 305, 306, 112, 114, 307, 315, 319, 320, 321, 316, 317, 318, 625, 440, 441, 442, 632, 633, 634, 635, 636, 637, 638, 639, 640, 641, 642, 659, 660, 661, 662, 663, 664, 665, 666, 667, 668, 669, 670, 671, 672, 673] (by decide +kernel) (by decide +kernel)
set_option maxRecDepth 20000 in
theorem gL_law_X4_digest : GoodIn wsL_law (wsV RL 102 RX4 yX4_digest wsX4_digest) := goodIn_app (goodIn_of _ (by decide +kernel)) ggL_law_X4_digest
set_option maxRecDepth 20000 in
theorem ggL_law_X5_digest : GoodIn wsL_law wsX5_digest := goodIn_r _ [629, 630, 631, 74, 79, 80, 608, 609, 610, 5, 611, 77, 513, 185, 468, 469, 470, 471, 148, 149, 150, 169, 170, 171, 172, 173, 174, 175, 176, 197, 198, 199, 353, 354, 355, 356, 357, 358, 359, 332, 333, 334, 335, 331, 336, 337, 338, 339, 340, 341, 342, 343, 344, 345, 346, 347, 348, 349, 350, 351, 352, 422, 423, 424, 425, 435, 436, 437, 438, 326, 327, 328, 329, 330, 447, 448, 449, 450, 643, 644, 645, 646, 647, 648, 649, 650, 651, 652, 653, 654, 655, 656, 657, 658] (by decide +kernel) (by decide +kernel)
set_option maxRecDepth 20000 in
theorem gL_law_X5_digest : GoodIn wsL_law (wsV RL 106 RX5 yX5_digest wsX5_digest) := goodIn_app (goodIn_of _ (by decide +kernel)) ggL_law_X5_digest
theorem dL_law_0 : decode cL_law 0 = .ok (.new 7, 3) := by decide +kernel
theorem dL_law_3 : decode cL_law 3 = .ok (.dup, 1) := by decide +kernel
theorem dL_law_4 : decode cL_law 4 = .ok (.invokespecial 9, 3) := by decide +kernel
theorem dL_law_7 : decode cL_law 7 = .ok (.astore_n 1, 1) := by decide +kernel
theorem dL_law_8 : decode cL_law 8 = .ok (.new 10, 3) := by decide +kernel
theorem dL_law_11 : decode cL_law 11 = .ok (.dup, 1) := by decide +kernel
theorem dL_law_12 : decode cL_law 12 = .ok (.invokespecial 12, 3) := by decide +kernel
theorem dL_law_15 : decode cL_law 15 = .ok (.astore_n 2, 1) := by decide +kernel
theorem dL_law_16 : decode cL_law 16 = .ok (.iconst 0, 1) := by decide +kernel
theorem dL_law_17 : decode cL_law 17 = .ok (.istore_n 3, 1) := by decide +kernel
theorem dL_law_18 : decode cL_law 18 = .ok (.iload_n 3, 1) := by decide +kernel
theorem dL_law_19 : decode cL_law 19 = .ok (.aload_n 0, 1) := by decide +kernel
theorem dL_law_20 : decode cL_law 20 = .ok (.arraylength, 1) := by decide +kernel
theorem dL_law_21 : decode cL_law 21 = .ok (.bipush 6, 2) := by decide +kernel
theorem dL_law_23 : decode cL_law 23 = .ok (.isub, 1) := by decide +kernel
theorem dL_law_24 : decode cL_law 24 = .ok (.if_icmp .gt 715, 3) := by decide +kernel
theorem dL_law_27 : decode cL_law 27 = .ok (.aload_n 0, 1) := by decide +kernel
theorem dL_law_28 : decode cL_law 28 = .ok (.iload_n 3, 1) := by decide +kernel
theorem dL_law_29 : decode cL_law 29 = .ok (.iaload, 1) := by decide +kernel
theorem dL_law_30 : decode cL_law 30 = .ok (.bipush 31, 2) := by decide +kernel
theorem dL_law_32 : decode cL_law 32 = .ok (.iand, 1) := by decide +kernel
theorem dL_law_33 : decode cL_law 33 = .ok (.tableswitch 700 0 21 #[103, 156, 169, 202, 225, 248, 271, 284, 317, 350, 383, 406, 439, 452, 475, 538, 601, 624, 637, 650, 663, 686], 103) := by decide +kernel
theorem dL_law_136 : decode cL_law 136 = .ok (.aload_n 1, 1) := by decide +kernel
theorem dL_law_137 : decode cL_law 137 = .ok (.aload_n 0, 1) := by decide +kernel
theorem dL_law_138 : decode cL_law 138 = .ok (.iload_n 3, 1) := by decide +kernel
theorem dL_law_139 : decode cL_law 139 = .ok (.iconst 1, 1) := by decide +kernel
theorem dL_law_140 : decode cL_law 140 = .ok (.iadd, 1) := by decide +kernel
theorem dL_law_141 : decode cL_law 141 = .ok (.iaload, 1) := by decide +kernel
theorem dL_law_142 : decode cL_law 142 = .ok (.aload_n 0, 1) := by decide +kernel
theorem dL_law_143 : decode cL_law 143 = .ok (.iload_n 3, 1) := by decide +kernel
theorem dL_law_144 : decode cL_law 144 = .ok (.iconst 2, 1) := by decide +kernel
theorem dL_law_145 : decode cL_law 145 = .ok (.iadd, 1) := by decide +kernel
theorem dL_law_146 : decode cL_law 146 = .ok (.iaload, 1) := by decide +kernel
theorem dL_law_147 : decode cL_law 147 = .ok (.aload_n 0, 1) := by decide +kernel
theorem dL_law_148 : decode cL_law 148 = .ok (.iload_n 3, 1) := by decide +kernel
theorem dL_law_149 : decode cL_law 149 = .ok (.iconst 3, 1) := by decide +kernel
theorem dL_law_150 : decode cL_law 150 = .ok (.iadd, 1) := by decide +kernel
theorem dL_law_151 : decode cL_law 151 = .ok (.iaload, 1) := by decide +kernel
theorem dL_law_152 : decode cL_law 152 = .ok (.aload_n 0, 1) := by decide +kernel
theorem dL_law_153 : decode cL_law 153 = .ok (.iload_n 3, 1) := by decide +kernel
theorem dL_law_154 : decode cL_law 154 = .ok (.iconst 4, 1) := by decide +kernel
theorem dL_law_155 : decode cL_law 155 = .ok (.iadd, 1) := by decide +kernel
theorem dL_law_156 : decode cL_law 156 = .ok (.iaload, 1) := by decide +kernel
theorem dL_law_157 : decode cL_law 157 = .ok (.invokevirtual 13, 3) := by decide +kernel
theorem dL_law_160 : decode cL_law 160 = .ok (.aload_n 2, 1) := by decide +kernel
theorem dL_law_161 : decode cL_law 161 = .ok (.aload_n 0, 1) := by decide +kernel
theorem dL_law_162 : decode cL_law 162 = .ok (.iload_n 3, 1) := by decide +kernel
theorem dL_law_163 : decode cL_law 163 = .ok (.iconst 1, 1) := by decide +kernel
theorem dL_law_164 : decode cL_law 164 = .ok (.iadd, 1) := by decide +kernel
theorem dL_law_165 : decode cL_law 165 = .ok (.iaload, 1) := by decide +kernel
theorem dL_law_166 : decode cL_law 166 = .ok (.aload_n 0, 1) := by decide +kernel
theorem dL_law_167 : decode cL_law 167 = .ok (.iload_n 3, 1) := by decide +kernel
theorem dL_law_168 : decode cL_law 168 = .ok (.iconst 2, 1) := by decide +kernel
theorem dL_law_169 : decode cL_law 169 = .ok (.iadd, 1) := by decide +kernel
theorem dL_law_170 : decode cL_law 170 = .ok (.iaload, 1) := by decide +kernel
theorem dL_law_171 : decode cL_law 171 = .ok (.aload_n 0, 1) := by decide +kernel
theorem dL_law_172 : decode cL_law 172 = .ok (.iload_n 3, 1) := by decide +kernel
theorem dL_law_173 : decode cL_law 173 = .ok (.iconst 3, 1) := by decide +kernel
theorem dL_law_174 : decode cL_law 174 = .ok (.iadd, 1) := by decide +kernel
theorem dL_law_175 : decode cL_law 175 = .ok (.iaload, 1) := by decide +kernel
theorem dL_law_176 : decode cL_law 176 = .ok (.aload_n 0, 1) := by decide +kernel
theorem dL_law_177 : decode cL_law 177 = .ok (.iload_n 3, 1) := by decide +kernel
theorem dL_law_178 : decode cL_law 178 = .ok (.iconst 4, 1) := by decide +kernel
theorem dL_law_179 : decode cL_law 179 = .ok (.iadd, 1) := by decide +kernel
theorem dL_law_180 : decode cL_law 180 = .ok (.iaload, 1) := by decide +kernel
theorem dL_law_181 : decode cL_law 181 = .ok (.invokevirtual 17, 3) := by decide +kernel
theorem dL_law_184 : decode cL_law 184 = .ok (.if_icmp .eq 549, 3) := by decide +kernel
theorem dL_law_187 : decode cL_law 187 = .ok (.iconst 0, 1) := by decide +kernel
theorem dL_law_188 : decode cL_law 188 = .ok (.ireturn, 1) := by decide +kernel
theorem dL_law_189 : decode cL_law 189 = .ok (.aload_n 1, 1) := by decide +kernel
theorem dL_law_190 : decode cL_law 190 = .ok (.invokevirtual 18, 3) := by decide +kernel
theorem dL_law_193 : decode cL_law 193 = .ok (.aload_n 2, 1) := by decide +kernel
theorem dL_law_194 : decode cL_law 194 = .ok (.invokevirtual 22, 3) := by decide +kernel
theorem dL_law_197 : decode cL_law 197 = .ok (.if_icmp .eq 536, 3) := by decide +kernel
theorem dL_law_200 : decode cL_law 200 = .ok (.iconst 0, 1) := by decide +kernel
theorem dL_law_201 : decode cL_law 201 = .ok (.ireturn, 1) := by decide +kernel
theorem dL_law_202 : decode cL_law 202 = .ok (.aload_n 1, 1) := by decide +kernel
theorem dL_law_203 : decode cL_law 203 = .ok (.aload_n 0, 1) := by decide +kernel
theorem dL_law_204 : decode cL_law 204 = .ok (.iload_n 3, 1) := by decide +kernel
theorem dL_law_205 : decode cL_law 205 = .ok (.iconst 1, 1) := by decide +kernel
theorem dL_law_206 : decode cL_law 206 = .ok (.iadd, 1) := by decide +kernel
theorem dL_law_207 : decode cL_law 207 = .ok (.iaload, 1) := by decide +kernel
theorem dL_law_208 : decode cL_law 208 = .ok (.aload_n 0, 1) := by decide +kernel
theorem dL_law_209 : decode cL_law 209 = .ok (.iload_n 3, 1) := by decide +kernel
theorem dL_law_210 : decode cL_law 210 = .ok (.iconst 2, 1) := by decide +kernel
theorem dL_law_211 : decode cL_law 211 = .ok (.iadd, 1) := by decide +kernel
theorem dL_law_212 : decode cL_law 212 = .ok (.iaload, 1) := by decide +kernel
theorem dL_law_213 : decode cL_law 213 = .ok (.invokevirtual 23, 3) := by decide +kernel
theorem dL_law_216 : decode cL_law 216 = .ok (.aload_n 2, 1) := by decide +kernel
theorem dL_law_217 : decode cL_law 217 = .ok (.aload_n 0, 1) := by decide +kernel
theorem dL_law_218 : decode cL_law 218 = .ok (.iload_n 3, 1) := by decide +kernel
theorem dL_law_219 : decode cL_law 219 = .ok (.iconst 1, 1) := by decide +kernel
theorem dL_law_220 : decode cL_law 220 = .ok (.iadd, 1) := by decide +kernel
theorem dL_law_221 : decode cL_law 221 = .ok (.iaload, 1) := by decide +kernel
theorem dL_law_222 : decode cL_law 222 = .ok (.aload_n 0, 1) := by decide +kernel
theorem dL_law_223 : decode cL_law 223 = .ok (.iload_n 3, 1) := by decide +kernel
theorem dL_law_224 : decode cL_law 224 = .ok (.iconst 2, 1) := by decide +kernel
theorem dL_law_225 : decode cL_law 225 = .ok (.iadd, 1) := by decide +kernel
theorem dL_law_226 : decode cL_law 226 = .ok (.iaload, 1) := by decide +kernel
theorem dL_law_227 : decode cL_law 227 = .ok (.invokevirtual 27, 3) := by decide +kernel
theorem dL_law_230 : decode cL_law 230 = .ok (.if_icmp .eq 503, 3) := by decide +kernel
theorem dL_law_233 : decode cL_law 233 = .ok (.iconst 0, 1) := by decide +kernel
theorem dL_law_234 : decode cL_law 234 = .ok (.ireturn, 1) := by decide +kernel
theorem dL_law_235 : decode cL_law 235 = .ok (.aload_n 1, 1) := by decide +kernel
theorem dL_law_236 : decode cL_law 236 = .ok (.aload_n 0, 1) := by decide +kernel
theorem dL_law_237 : decode cL_law 237 = .ok (.iload_n 3, 1) := by decide +kernel
theorem dL_law_238 : decode cL_law 238 = .ok (.iconst 1, 1) := by decide +kernel
theorem dL_law_239 : decode cL_law 239 = .ok (.iadd, 1) := by decide +kernel
theorem dL_law_240 : decode cL_law 240 = .ok (.iaload, 1) := by decide +kernel
theorem dL_law_241 : decode cL_law 241 = .ok (.invokevirtual 28, 3) := by decide +kernel
theorem dL_law_244 : decode cL_law 244 = .ok (.aload_n 2, 1) := by decide +kernel
theorem dL_law_245 : decode cL_law 245 = .ok (.aload_n 0, 1) := by decide +kernel
theorem dL_law_246 : decode cL_law 246 = .ok (.iload_n 3, 1) := by decide +kernel
theorem dL_law_247 : decode cL_law 247 = .ok (.iconst 1, 1) := by decide +kernel
theorem dL_law_248 : decode cL_law 248 = .ok (.iadd, 1) := by decide +kernel
theorem dL_law_249 : decode cL_law 249 = .ok (.iaload, 1) := by decide +kernel
theorem dL_law_250 : decode cL_law 250 = .ok (.invokevirtual 32, 3) := by decide +kernel
theorem dL_law_253 : decode cL_law 253 = .ok (.if_icmp .eq 480, 3) := by decide +kernel
theorem dL_law_256 : decode cL_law 256 = .ok (.iconst 0, 1) := by decide +kernel
theorem dL_law_257 : decode cL_law 257 = .ok (.ireturn, 1) := by decide +kernel
theorem dL_law_258 : decode cL_law 258 = .ok (.aload_n 1, 1) := by decide +kernel
theorem dL_law_259 : decode cL_law 259 = .ok (.aload_n 0, 1) := by decide +kernel
theorem dL_law_260 : decode cL_law 260 = .ok (.iload_n 3, 1) := by decide +kernel
theorem dL_law_261 : decode cL_law 261 = .ok (.iconst 1, 1) := by decide +kernel
theorem dL_law_262 : decode cL_law 262 = .ok (.iadd, 1) := by decide +kernel
theorem dL_law_263 : decode cL_law 263 = .ok (.iaload, 1) := by decide +kernel
theorem dL_law_264 : decode cL_law 264 = .ok (.invokevirtual 33, 3) := by decide +kernel
theorem dL_law_267 : decode cL_law 267 = .ok (.aload_n 2, 1) := by decide +kernel
theorem dL_law_268 : decode cL_law 268 = .ok (.aload_n 0, 1) := by decide +kernel
theorem dL_law_269 : decode cL_law 269 = .ok (.iload_n 3, 1) := by decide +kernel
theorem dL_law_270 : decode cL_law 270 = .ok (.iconst 1, 1) := by decide +kernel
theorem dL_law_271 : decode cL_law 271 = .ok (.iadd, 1) := by decide +kernel
theorem dL_law_272 : decode cL_law 272 = .ok (.iaload, 1) := by decide +kernel
theorem dL_law_273 : decode cL_law 273 = .ok (.invokevirtual 36, 3) := by decide +kernel
theorem dL_law_276 : decode cL_law 276 = .ok (.if_icmp .eq 457, 3) := by decide +kernel
theorem dL_law_279 : decode cL_law 279 = .ok (.iconst 0, 1) := by decide +kernel
theorem dL_law_280 : decode cL_law 280 = .ok (.ireturn, 1) := by decide +kernel
theorem dL_law_281 : decode cL_law 281 = .ok (.aload_n 1, 1) := by decide +kernel
theorem dL_law_282 : decode cL_law 282 = .ok (.aload_n 0, 1) := by decide +kernel
theorem dL_law_283 : decode cL_law 283 = .ok (.iload_n 3, 1) := by decide +kernel
theorem dL_law_284 : decode cL_law 284 = .ok (.iconst 1, 1) := by decide +kernel
theorem dL_law_285 : decode cL_law 285 = .ok (.iadd, 1) := by decide +kernel
theorem dL_law_286 : decode cL_law 286 = .ok (.iaload, 1) := by decide +kernel
theorem dL_law_287 : decode cL_law 287 = .ok (.invokevirtual 37, 3) := by decide +kernel
theorem dL_law_290 : decode cL_law 290 = .ok (.aload_n 2, 1) := by decide +kernel
theorem dL_law_291 : decode cL_law 291 = .ok (.aload_n 0, 1) := by decide +kernel
theorem dL_law_292 : decode cL_law 292 = .ok (.iload_n 3, 1) := by decide +kernel
theorem dL_law_293 : decode cL_law 293 = .ok (.iconst 1, 1) := by decide +kernel
theorem dL_law_294 : decode cL_law 294 = .ok (.iadd, 1) := by decide +kernel
theorem dL_law_295 : decode cL_law 295 = .ok (.iaload, 1) := by decide +kernel
theorem dL_law_296 : decode cL_law 296 = .ok (.invokevirtual 40, 3) := by decide +kernel
theorem dL_law_299 : decode cL_law 299 = .ok (.if_icmp .eq 434, 3) := by decide +kernel
theorem dL_law_302 : decode cL_law 302 = .ok (.iconst 0, 1) := by decide +kernel
theorem dL_law_303 : decode cL_law 303 = .ok (.ireturn, 1) := by decide +kernel
theorem dL_law_304 : decode cL_law 304 = .ok (.aload_n 1, 1) := by decide +kernel
theorem dL_law_305 : decode cL_law 305 = .ok (.invokevirtual 41, 3) := by decide +kernel
theorem dL_law_308 : decode cL_law 308 = .ok (.aload_n 2, 1) := by decide +kernel
theorem dL_law_309 : decode cL_law 309 = .ok (.invokevirtual 44, 3) := by decide +kernel
theorem dL_law_312 : decode cL_law 312 = .ok (.if_icmp .eq 421, 3) := by decide +kernel
theorem dL_law_315 : decode cL_law 315 = .ok (.iconst 0, 1) := by decide +kernel
theorem dL_law_316 : decode cL_law 316 = .ok (.ireturn, 1) := by decide +kernel
theorem dL_law_317 : decode cL_law 317 = .ok (.aload_n 1, 1) := by decide +kernel
theorem dL_law_318 : decode cL_law 318 = .ok (.aload_n 0, 1) := by decide +kernel
theorem dL_law_319 : decode cL_law 319 = .ok (.iload_n 3, 1) := by decide +kernel
theorem dL_law_320 : decode cL_law 320 = .ok (.iconst 1, 1) := by decide +kernel
theorem dL_law_321 : decode cL_law 321 = .ok (.iadd, 1) := by decide +kernel
theorem dL_law_322 : decode cL_law 322 = .ok (.iaload, 1) := by decide +kernel
theorem dL_law_323 : decode cL_law 323 = .ok (.aload_n 0, 1) := by decide +kernel
theorem dL_law_324 : decode cL_law 324 = .ok (.iload_n 3, 1) := by decide +kernel
theorem dL_law_325 : decode cL_law 325 = .ok (.iconst 2, 1) := by decide +kernel
theorem dL_law_326 : decode cL_law 326 = .ok (.iadd, 1) := by decide +kernel
theorem dL_law_327 : decode cL_law 327 = .ok (.iaload, 1) := by decide +kernel
theorem dL_law_328 : decode cL_law 328 = .ok (.invokevirtual 45, 3) := by decide +kernel
theorem dL_law_331 : decode cL_law 331 = .ok (.aload_n 2, 1) := by decide +kernel
theorem dL_law_332 : decode cL_law 332 = .ok (.aload_n 0, 1) := by decide +kernel
theorem dL_law_333 : decode cL_law 333 = .ok (.iload_n 3, 1) := by decide +kernel
theorem dL_law_334 : decode cL_law 334 = .ok (.iconst 1, 1) := by decide +kernel
theorem dL_law_335 : decode cL_law 335 = .ok (.iadd, 1) := by decide +kernel
theorem dL_law_336 : decode cL_law 336 = .ok (.iaload, 1) := by decide +kernel
theorem dL_law_337 : decode cL_law 337 = .ok (.aload_n 0, 1) := by decide +kernel
theorem dL_law_338 : decode cL_law 338 = .ok (.iload_n 3, 1) := by decide +kernel
theorem dL_law_339 : decode cL_law 339 = .ok (.iconst 2, 1) := by decide +kernel
theorem dL_law_340 : decode cL_law 340 = .ok (.iadd, 1) := by decide +kernel
theorem dL_law_341 : decode cL_law 341 = .ok (.iaload, 1) := by decide +kernel
theorem dL_law_342 : decode cL_law 342 = .ok (.invokevirtual 48, 3) := by decide +kernel
theorem dL_law_345 : decode cL_law 345 = .ok (.if_icmp .eq 388, 3) := by decide +kernel
theorem dL_law_348 : decode cL_law 348 = .ok (.iconst 0, 1) := by decide +kernel
theorem dL_law_349 : decode cL_law 349 = .ok (.ireturn, 1) := by decide +kernel
theorem dL_law_350 : decode cL_law 350 = .ok (.aload_n 1, 1) := by decide +kernel
theorem dL_law_351 : decode cL_law 351 = .ok (.aload_n 0, 1) := by decide +kernel
theorem dL_law_352 : decode cL_law 352 = .ok (.iload_n 3, 1) := by decide +kernel
theorem dL_law_353 : decode cL_law 353 = .ok (.iconst 1, 1) := by decide +kernel
theorem dL_law_354 : decode cL_law 354 = .ok (.iadd, 1) := by decide +kernel
theorem dL_law_355 : decode cL_law 355 = .ok (.iaload, 1) := by decide +kernel
theorem dL_law_356 : decode cL_law 356 = .ok (.aload_n 0, 1) := by decide +kernel
theorem dL_law_357 : decode cL_law 357 = .ok (.iload_n 3, 1) := by decide +kernel
theorem dL_law_358 : decode cL_law 358 = .ok (.iconst 2, 1) := by decide +kernel
theorem dL_law_359 : decode cL_law 359 = .ok (.iadd, 1) := by decide +kernel
theorem dL_law_360 : decode cL_law 360 = .ok (.iaload, 1) := by decide +kernel
theorem dL_law_361 : decode cL_law 361 = .ok (.invokevirtual 49, 3) := by decide +kernel
theorem dL_law_364 : decode cL_law 364 = .ok (.aload_n 2, 1) := by decide +kernel
theorem dL_law_365 : decode cL_law 365 = .ok (.aload_n 0, 1) := by decide +kernel
theorem dL_law_366 : decode cL_law 366 = .ok (.iload_n 3, 1) := by decide +kernel
theorem dL_law_367 : decode cL_law 367 = .ok (.iconst 1, 1) := by decide +kernel
theorem dL_law_368 : decode cL_law 368 = .ok (.iadd, 1) := by decide +kernel
theorem dL_law_369 : decode cL_law 369 = .ok (.iaload, 1) := by decide +kernel
theorem dL_law_370 : decode cL_law 370 = .ok (.aload_n 0, 1) := by decide +kernel
theorem dL_law_371 : decode cL_law 371 = .ok (.iload_n 3, 1) := by decide +kernel
theorem dL_law_372 : decode cL_law 372 = .ok (.iconst 2, 1) := by decide +kernel
theorem dL_law_373 : decode cL_law 373 = .ok (.iadd, 1) := by decide +kernel
theorem dL_law_374 : decode cL_law 374 = .ok (.iaload, 1) := by decide +kernel
theorem dL_law_375 : decode cL_law 375 = .ok (.invokevirtual 52, 3) := by decide +kernel
theorem dL_law_378 : decode cL_law 378 = .ok (.if_icmp .eq 355, 3) := by decide +kernel
theorem dL_law_381 : decode cL_law 381 = .ok (.iconst 0, 1) := by decide +kernel
theorem dL_law_382 : decode cL_law 382 = .ok (.ireturn, 1) := by decide +kernel
theorem dL_law_383 : decode cL_law 383 = .ok (.aload_n 1, 1) := by decide +kernel
theorem dL_law_384 : decode cL_law 384 = .ok (.aload_n 0, 1) := by decide +kernel
theorem dL_law_385 : decode cL_law 385 = .ok (.iload_n 3, 1) := by decide +kernel
theorem dL_law_386 : decode cL_law 386 = .ok (.iconst 1, 1) := by decide +kernel
theorem dL_law_387 : decode cL_law 387 = .ok (.iadd, 1) := by decide +kernel
theorem dL_law_388 : decode cL_law 388 = .ok (.iaload, 1) := by decide +kernel
theorem dL_law_389 : decode cL_law 389 = .ok (.aload_n 0, 1) := by decide +kernel
theorem dL_law_390 : decode cL_law 390 = .ok (.iload_n 3, 1) := by decide +kernel
theorem dL_law_391 : decode cL_law 391 = .ok (.iconst 2, 1) := by decide +kernel
theorem dL_law_392 : decode cL_law 392 = .ok (.iadd, 1) := by decide +kernel
theorem dL_law_393 : decode cL_law 393 = .ok (.iaload, 1) := by decide +kernel
theorem dL_law_394 : decode cL_law 394 = .ok (.invokevirtual 53, 3) := by decide +kernel
theorem dL_law_397 : decode cL_law 397 = .ok (.aload_n 2, 1) := by decide +kernel
theorem dL_law_398 : decode cL_law 398 = .ok (.aload_n 0, 1) := by decide +kernel
theorem dL_law_399 : decode cL_law 399 = .ok (.iload_n 3, 1) := by decide +kernel
theorem dL_law_400 : decode cL_law 400 = .ok (.iconst 1, 1) := by decide +kernel
theorem dL_law_401 : decode cL_law 401 = .ok (.iadd, 1) := by decide +kernel
theorem dL_law_402 : decode cL_law 402 = .ok (.iaload, 1) := by decide +kernel
theorem dL_law_403 : decode cL_law 403 = .ok (.aload_n 0, 1) := by decide +kernel
theorem dL_law_404 : decode cL_law 404 = .ok (.iload_n 3, 1) := by decide +kernel
theorem dL_law_405 : decode cL_law 405 = .ok (.iconst 2, 1) := by decide +kernel
theorem dL_law_406 : decode cL_law 406 = .ok (.iadd, 1) := by decide +kernel
theorem dL_law_407 : decode cL_law 407 = .ok (.iaload, 1) := by decide +kernel
theorem dL_law_408 : decode cL_law 408 = .ok (.invokevirtual 56, 3) := by decide +kernel
theorem dL_law_411 : decode cL_law 411 = .ok (.if_icmp .eq 322, 3) := by decide +kernel
theorem dL_law_414 : decode cL_law 414 = .ok (.iconst 0, 1) := by decide +kernel
theorem dL_law_415 : decode cL_law 415 = .ok (.ireturn, 1) := by decide +kernel
theorem dL_law_416 : decode cL_law 416 = .ok (.aload_n 1, 1) := by decide +kernel
theorem dL_law_417 : decode cL_law 417 = .ok (.aload_n 0, 1) := by decide +kernel
theorem dL_law_418 : decode cL_law 418 = .ok (.iload_n 3, 1) := by decide +kernel
theorem dL_law_419 : decode cL_law 419 = .ok (.iconst 1, 1) := by decide +kernel
theorem dL_law_420 : decode cL_law 420 = .ok (.iadd, 1) := by decide +kernel
theorem dL_law_421 : decode cL_law 421 = .ok (.iaload, 1) := by decide +kernel
theorem dL_law_422 : decode cL_law 422 = .ok (.invokevirtual 57, 3) := by decide +kernel
theorem dL_law_425 : decode cL_law 425 = .ok (.aload_n 2, 1) := by decide +kernel
theorem dL_law_426 : decode cL_law 426 = .ok (.aload_n 0, 1) := by decide +kernel
theorem dL_law_427 : decode cL_law 427 = .ok (.iload_n 3, 1) := by decide +kernel
theorem dL_law_428 : decode cL_law 428 = .ok (.iconst 1, 1) := by decide +kernel
theorem dL_law_429 : decode cL_law 429 = .ok (.iadd, 1) := by decide +kernel
theorem dL_law_430 : decode cL_law 430 = .ok (.iaload, 1) := by decide +kernel
theorem dL_law_431 : decode cL_law 431 = .ok (.invokevirtual 60, 3) := by decide +kernel
theorem dL_law_434 : decode cL_law 434 = .ok (.if_icmp .eq 299, 3) := by decide +kernel
theorem dL_law_437 : decode cL_law 437 = .ok (.iconst 0, 1) := by decide +kernel
theorem dL_law_438 : decode cL_law 438 = .ok (.ireturn, 1) := by decide +kernel
theorem dL_law_439 : decode cL_law 439 = .ok (.aload_n 1, 1) := by decide +kernel
theorem dL_law_440 : decode cL_law 440 = .ok (.aload_n 0, 1) := by decide +kernel
theorem dL_law_441 : decode cL_law 441 = .ok (.iload_n 3, 1) := by decide +kernel
theorem dL_law_442 : decode cL_law 442 = .ok (.iconst 1, 1) := by decide +kernel
theorem dL_law_443 : decode cL_law 443 = .ok (.iadd, 1) := by decide +kernel
theorem dL_law_444 : decode cL_law 444 = .ok (.iaload, 1) := by decide +kernel
theorem dL_law_445 : decode cL_law 445 = .ok (.aload_n 0, 1) := by decide +kernel
theorem dL_law_446 : decode cL_law 446 = .ok (.iload_n 3, 1) := by decide +kernel
theorem dL_law_447 : decode cL_law 447 = .ok (.iconst 2, 1) := by decide +kernel
theorem dL_law_448 : decode cL_law 448 = .ok (.iadd, 1) := by decide +kernel
theorem dL_law_449 : decode cL_law 449 = .ok (.iaload, 1) := by decide +kernel
theorem dL_law_450 : decode cL_law 450 = .ok (.invokevirtual 61, 3) := by decide +kernel
theorem dL_law_453 : decode cL_law 453 = .ok (.aload_n 2, 1) := by decide +kernel
theorem dL_law_454 : decode cL_law 454 = .ok (.aload_n 0, 1) := by decide +kernel
theorem dL_law_455 : decode cL_law 455 = .ok (.iload_n 3, 1) := by decide +kernel
theorem dL_law_456 : decode cL_law 456 = .ok (.iconst 1, 1) := by decide +kernel
theorem dL_law_457 : decode cL_law 457 = .ok (.iadd, 1) := by decide +kernel
theorem dL_law_458 : decode cL_law 458 = .ok (.iaload, 1) := by decide +kernel
theorem dL_law_459 : decode cL_law 459 = .ok (.aload_n 0, 1) := by decide +kernel
theorem dL_law_460 : decode cL_law 460 = .ok (.iload_n 3, 1) := by decide +kernel
theorem dL_law_461 : decode cL_law 461 = .ok (.iconst 2, 1) := by decide +kernel
theorem dL_law_462 : decode cL_law 462 = .ok (.iadd, 1) := by decide +kernel
theorem dL_law_463 : decode cL_law 463 = .ok (.iaload, 1) := by decide +kernel
theorem dL_law_464 : decode cL_law 464 = .ok (.invokevirtual 64, 3) := by decide +kernel
theorem dL_law_467 : decode cL_law 467 = .ok (.if_icmp .eq 266, 3) := by decide +kernel
theorem dL_law_470 : decode cL_law 470 = .ok (.iconst 0, 1) := by decide +kernel
theorem dL_law_471 : decode cL_law 471 = .ok (.ireturn, 1) := by decide +kernel
theorem dL_law_472 : decode cL_law 472 = .ok (.aload_n 1, 1) := by decide +kernel
theorem dL_law_473 : decode cL_law 473 = .ok (.invokevirtual 65, 3) := by decide +kernel
theorem dL_law_476 : decode cL_law 476 = .ok (.aload_n 2, 1) := by decide +kernel
theorem dL_law_477 : decode cL_law 477 = .ok (.invokevirtual 68, 3) := by decide +kernel
theorem dL_law_480 : decode cL_law 480 = .ok (.if_icmp .eq 253, 3) := by decide +kernel
theorem dL_law_483 : decode cL_law 483 = .ok (.iconst 0, 1) := by decide +kernel
theorem dL_law_484 : decode cL_law 484 = .ok (.ireturn, 1) := by decide +kernel
theorem dL_law_485 : decode cL_law 485 = .ok (.aload_n 1, 1) := by decide +kernel
theorem dL_law_486 : decode cL_law 486 = .ok (.aload_n 0, 1) := by decide +kernel
theorem dL_law_487 : decode cL_law 487 = .ok (.iload_n 3, 1) := by decide +kernel
theorem dL_law_488 : decode cL_law 488 = .ok (.iconst 1, 1) := by decide +kernel
theorem dL_law_489 : decode cL_law 489 = .ok (.iadd, 1) := by decide +kernel
theorem dL_law_490 : decode cL_law 490 = .ok (.iaload, 1) := by decide +kernel
theorem dL_law_491 : decode cL_law 491 = .ok (.invokevirtual 69, 3) := by decide +kernel
theorem dL_law_494 : decode cL_law 494 = .ok (.aload_n 2, 1) := by decide +kernel
theorem dL_law_495 : decode cL_law 495 = .ok (.aload_n 0, 1) := by decide +kernel
theorem dL_law_496 : decode cL_law 496 = .ok (.iload_n 3, 1) := by decide +kernel
theorem dL_law_497 : decode cL_law 497 = .ok (.iconst 1, 1) := by decide +kernel
theorem dL_law_498 : decode cL_law 498 = .ok (.iadd, 1) := by decide +kernel
theorem dL_law_499 : decode cL_law 499 = .ok (.iaload, 1) := by decide +kernel
theorem dL_law_500 : decode cL_law 500 = .ok (.invokevirtual 72, 3) := by decide +kernel
theorem dL_law_503 : decode cL_law 503 = .ok (.if_icmp .eq 230, 3) := by decide +kernel
theorem dL_law_506 : decode cL_law 506 = .ok (.iconst 0, 1) := by decide +kernel
theorem dL_law_507 : decode cL_law 507 = .ok (.ireturn, 1) := by decide +kernel
theorem dL_law_508 : decode cL_law 508 = .ok (.aload_n 1, 1) := by decide +kernel
theorem dL_law_509 : decode cL_law 509 = .ok (.aload_n 0, 1) := by decide +kernel
theorem dL_law_510 : decode cL_law 510 = .ok (.iload_n 3, 1) := by decide +kernel
theorem dL_law_511 : decode cL_law 511 = .ok (.iconst 1, 1) := by decide +kernel
theorem dL_law_512 : decode cL_law 512 = .ok (.iadd, 1) := by decide +kernel
theorem dL_law_513 : decode cL_law 513 = .ok (.iaload, 1) := by decide +kernel
theorem dL_law_514 : decode cL_law 514 = .ok (.aload_n 0, 1) := by decide +kernel
theorem dL_law_515 : decode cL_law 515 = .ok (.iload_n 3, 1) := by decide +kernel
theorem dL_law_516 : decode cL_law 516 = .ok (.iconst 2, 1) := by decide +kernel
theorem dL_law_517 : decode cL_law 517 = .ok (.iadd, 1) := by decide +kernel
theorem dL_law_518 : decode cL_law 518 = .ok (.iaload, 1) := by decide +kernel
theorem dL_law_519 : decode cL_law 519 = .ok (.aload_n 0, 1) := by decide +kernel
theorem dL_law_520 : decode cL_law 520 = .ok (.iload_n 3, 1) := by decide +kernel
theorem dL_law_521 : decode cL_law 521 = .ok (.iconst 3, 1) := by decide +kernel
theorem dL_law_522 : decode cL_law 522 = .ok (.iadd, 1) := by decide +kernel
theorem dL_law_523 : decode cL_law 523 = .ok (.iaload, 1) := by decide +kernel
theorem dL_law_524 : decode cL_law 524 = .ok (.aload_n 0, 1) := by decide +kernel
theorem dL_law_525 : decode cL_law 525 = .ok (.iload_n 3, 1) := by decide +kernel
theorem dL_law_526 : decode cL_law 526 = .ok (.iconst 4, 1) := by decide +kernel
theorem dL_law_527 : decode cL_law 527 = .ok (.iadd, 1) := by decide +kernel
theorem dL_law_528 : decode cL_law 528 = .ok (.iaload, 1) := by decide +kernel
theorem dL_law_529 : decode cL_law 529 = .ok (.aload_n 0, 1) := by decide +kernel
theorem dL_law_530 : decode cL_law 530 = .ok (.iload_n 3, 1) := by decide +kernel
theorem dL_law_531 : decode cL_law 531 = .ok (.iconst 5, 1) := by decide +kernel
theorem dL_law_532 : decode cL_law 532 = .ok (.iadd, 1) := by decide +kernel
theorem dL_law_533 : decode cL_law 533 = .ok (.iaload, 1) := by decide +kernel
theorem dL_law_534 : decode cL_law 534 = .ok (.invokevirtual 73, 3) := by decide +kernel
theorem dL_law_537 : decode cL_law 537 = .ok (.aload_n 2, 1) := by decide +kernel
theorem dL_law_538 : decode cL_law 538 = .ok (.aload_n 0, 1) := by decide +kernel
theorem dL_law_539 : decode cL_law 539 = .ok (.iload_n 3, 1) := by decide +kernel
theorem dL_law_540 : decode cL_law 540 = .ok (.iconst 1, 1) := by decide +kernel
theorem dL_law_541 : decode cL_law 541 = .ok (.iadd, 1) := by decide +kernel
theorem dL_law_542 : decode cL_law 542 = .ok (.iaload, 1) := by decide +kernel
theorem dL_law_543 : decode cL_law 543 = .ok (.aload_n 0, 1) := by decide +kernel
theorem dL_law_544 : decode cL_law 544 = .ok (.iload_n 3, 1) := by decide +kernel
theorem dL_law_545 : decode cL_law 545 = .ok (.iconst 2, 1) := by decide +kernel
theorem dL_law_546 : decode cL_law 546 = .ok (.iadd, 1) := by decide +kernel
theorem dL_law_547 : decode cL_law 547 = .ok (.iaload, 1) := by decide +kernel
theorem dL_law_548 : decode cL_law 548 = .ok (.aload_n 0, 1) := by decide +kernel
theorem dL_law_549 : decode cL_law 549 = .ok (.iload_n 3, 1) := by decide +kernel
theorem dL_law_550 : decode cL_law 550 = .ok (.iconst 3, 1) := by decide +kernel
theorem dL_law_551 : decode cL_law 551 = .ok (.iadd, 1) := by decide +kernel
theorem dL_law_552 : decode cL_law 552 = .ok (.iaload, 1) := by decide +kernel
theorem dL_law_553 : decode cL_law 553 = .ok (.aload_n 0, 1) := by decide +kernel
theorem dL_law_554 : decode cL_law 554 = .ok (.iload_n 3, 1) := by decide +kernel
theorem dL_law_555 : decode cL_law 555 = .ok (.iconst 4, 1) := by decide +kernel
theorem dL_law_556 : decode cL_law 556 = .ok (.iadd, 1) := by decide +kernel
theorem dL_law_557 : decode cL_law 557 = .ok (.iaload, 1) := by decide +kernel
theorem dL_law_558 : decode cL_law 558 = .ok (.aload_n 0, 1) := by decide +kernel
theorem dL_law_559 : decode cL_law 559 = .ok (.iload_n 3, 1) := by decide +kernel
theorem dL_law_560 : decode cL_law 560 = .ok (.iconst 5, 1) := by decide +kernel
theorem dL_law_561 : decode cL_law 561 = .ok (.iadd, 1) := by decide +kernel
theorem dL_law_562 : decode cL_law 562 = .ok (.iaload, 1) := by decide +kernel
theorem dL_law_563 : decode cL_law 563 = .ok (.invokevirtual 77, 3) := by decide +kernel
theorem dL_law_566 : decode cL_law 566 = .ok (.if_icmp .eq 167, 3) := by decide +kernel
theorem dL_law_569 : decode cL_law 569 = .ok (.iconst 0, 1) := by decide +kernel
theorem dL_law_570 : decode cL_law 570 = .ok (.ireturn, 1) := by decide +kernel
theorem dL_law_571 : decode cL_law 571 = .ok (.aload_n 1, 1) := by decide +kernel
theorem dL_law_572 : decode cL_law 572 = .ok (.aload_n 0, 1) := by decide +kernel
theorem dL_law_573 : decode cL_law 573 = .ok (.iload_n 3, 1) := by decide +kernel
theorem dL_law_574 : decode cL_law 574 = .ok (.iconst 1, 1) := by decide +kernel
theorem dL_law_575 : decode cL_law 575 = .ok (.iadd, 1) := by decide +kernel
theorem dL_law_576 : decode cL_law 576 = .ok (.iaload, 1) := by decide +kernel
theorem dL_law_577 : decode cL_law 577 = .ok (.aload_n 0, 1) := by decide +kernel
theorem dL_law_578 : decode cL_law 578 = .ok (.iload_n 3, 1) := by decide +kernel
theorem dL_law_579 : decode cL_law 579 = .ok (.iconst 2, 1) := by decide +kernel
theorem dL_law_580 : decode cL_law 580 = .ok (.iadd, 1) := by decide +kernel
theorem dL_law_581 : decode cL_law 581 = .ok (.iaload, 1) := by decide +kernel
theorem dL_law_582 : decode cL_law 582 = .ok (.aload_n 0, 1) := by decide +kernel
theorem dL_law_583 : decode cL_law 583 = .ok (.iload_n 3, 1) := by decide +kernel
theorem dL_law_584 : decode cL_law 584 = .ok (.iconst 3, 1) := by decide +kernel
theorem dL_law_585 : decode cL_law 585 = .ok (.iadd, 1) := by decide +kernel
theorem dL_law_586 : decode cL_law 586 = .ok (.iaload, 1) := by decide +kernel
theorem dL_law_587 : decode cL_law 587 = .ok (.aload_n 0, 1) := by decide +kernel
theorem dL_law_588 : decode cL_law 588 = .ok (.iload_n 3, 1) := by decide +kernel
theorem dL_law_589 : decode cL_law 589 = .ok (.iconst 4, 1) := by decide +kernel
theorem dL_law_590 : decode cL_law 590 = .ok (.iadd, 1) := by decide +kernel
theorem dL_law_591 : decode cL_law 591 = .ok (.iaload, 1) := by decide +kernel
theorem dL_law_592 : decode cL_law 592 = .ok (.aload_n 0, 1) := by decide +kernel
theorem dL_law_593 : decode cL_law 593 = .ok (.iload_n 3, 1) := by decide +kernel
theorem dL_law_594 : decode cL_law 594 = .ok (.iconst 5, 1) := by decide +kernel
theorem dL_law_595 : decode cL_law 595 = .ok (.iadd, 1) := by decide +kernel
theorem dL_law_596 : decode cL_law 596 = .ok (.iaload, 1) := by decide +kernel
theorem dL_law_597 : decode cL_law 597 = .ok (.invokevirtual 78, 3) := by decide +kernel
theorem dL_law_600 : decode cL_law 600 = .ok (.aload_n 2, 1) := by decide +kernel
theorem dL_law_601 : decode cL_law 601 = .ok (.aload_n 0, 1) := by decide +kernel
theorem dL_law_602 : decode cL_law 602 = .ok (.iload_n 3, 1) := by decide +kernel
theorem dL_law_603 : decode cL_law 603 = .ok (.iconst 1, 1) := by decide +kernel
theorem dL_law_604 : decode cL_law 604 = .ok (.iadd, 1) := by decide +kernel
theorem dL_law_605 : decode cL_law 605 = .ok (.iaload, 1) := by decide +kernel
theorem dL_law_606 : decode cL_law 606 = .ok (.aload_n 0, 1) := by decide +kernel
theorem dL_law_607 : decode cL_law 607 = .ok (.iload_n 3, 1) := by decide +kernel
theorem dL_law_608 : decode cL_law 608 = .ok (.iconst 2, 1) := by decide +kernel
theorem dL_law_609 : decode cL_law 609 = .ok (.iadd, 1) := by decide +kernel
theorem dL_law_610 : decode cL_law 610 = .ok (.iaload, 1) := by decide +kernel
theorem dL_law_611 : decode cL_law 611 = .ok (.aload_n 0, 1) := by decide +kernel
theorem dL_law_612 : decode cL_law 612 = .ok (.iload_n 3, 1) := by decide +kernel
theorem dL_law_613 : decode cL_law 613 = .ok (.iconst 3, 1) := by decide +kernel
theorem dL_law_614 : decode cL_law 614 = .ok (.iadd, 1) := by decide +kernel
theorem dL_law_615 : decode cL_law 615 = .ok (.iaload, 1) := by decide +kernel
theorem dL_law_616 : decode cL_law 616 = .ok (.aload_n 0, 1) := by decide +kernel
theorem dL_law_617 : decode cL_law 617 = .ok (.iload_n 3, 1) := by decide +kernel
theorem dL_law_618 : decode cL_law 618 = .ok (.iconst 4, 1) := by decide +kernel
theorem dL_law_619 : decode cL_law 619 = .ok (.iadd, 1) := by decide +kernel
theorem dL_law_620 : decode cL_law 620 = .ok (.iaload, 1) := by decide +kernel
theorem dL_law_621 : decode cL_law 621 = .ok (.aload_n 0, 1) := by decide +kernel
theorem dL_law_622 : decode cL_law 622 = .ok (.iload_n 3, 1) := by decide +kernel
theorem dL_law_623 : decode cL_law 623 = .ok (.iconst 5, 1) := by decide +kernel
theorem dL_law_624 : decode cL_law 624 = .ok (.iadd, 1) := by decide +kernel
theorem dL_law_625 : decode cL_law 625 = .ok (.iaload, 1) := by decide +kernel
theorem dL_law_626 : decode cL_law 626 = .ok (.invokevirtual 81, 3) := by decide +kernel
theorem dL_law_629 : decode cL_law 629 = .ok (.if_icmp .eq 104, 3) := by decide +kernel
theorem dL_law_632 : decode cL_law 632 = .ok (.iconst 0, 1) := by decide +kernel
theorem dL_law_633 : decode cL_law 633 = .ok (.ireturn, 1) := by decide +kernel
theorem dL_law_634 : decode cL_law 634 = .ok (.aload_n 1, 1) := by decide +kernel
theorem dL_law_635 : decode cL_law 635 = .ok (.aload_n 0, 1) := by decide +kernel
theorem dL_law_636 : decode cL_law 636 = .ok (.iload_n 3, 1) := by decide +kernel
theorem dL_law_637 : decode cL_law 637 = .ok (.iconst 1, 1) := by decide +kernel
theorem dL_law_638 : decode cL_law 638 = .ok (.iadd, 1) := by decide +kernel
theorem dL_law_639 : decode cL_law 639 = .ok (.iaload, 1) := by decide +kernel
theorem dL_law_640 : decode cL_law 640 = .ok (.invokevirtual 82, 3) := by decide +kernel
theorem dL_law_643 : decode cL_law 643 = .ok (.aload_n 2, 1) := by decide +kernel
theorem dL_law_644 : decode cL_law 644 = .ok (.aload_n 0, 1) := by decide +kernel
theorem dL_law_645 : decode cL_law 645 = .ok (.iload_n 3, 1) := by decide +kernel
theorem dL_law_646 : decode cL_law 646 = .ok (.iconst 1, 1) := by decide +kernel
theorem dL_law_647 : decode cL_law 647 = .ok (.iadd, 1) := by decide +kernel
theorem dL_law_648 : decode cL_law 648 = .ok (.iaload, 1) := by decide +kernel
theorem dL_law_649 : decode cL_law 649 = .ok (.invokevirtual 85, 3) := by decide +kernel
theorem dL_law_652 : decode cL_law 652 = .ok (.if_icmp .eq 81, 3) := by decide +kernel
theorem dL_law_655 : decode cL_law 655 = .ok (.iconst 0, 1) := by decide +kernel
theorem dL_law_656 : decode cL_law 656 = .ok (.ireturn, 1) := by decide +kernel
theorem dL_law_657 : decode cL_law 657 = .ok (.aload_n 1, 1) := by decide +kernel
theorem dL_law_658 : decode cL_law 658 = .ok (.invokevirtual 86, 3) := by decide +kernel
theorem dL_law_661 : decode cL_law 661 = .ok (.aload_n 2, 1) := by decide +kernel
theorem dL_law_662 : decode cL_law 662 = .ok (.invokevirtual 89, 3) := by decide +kernel
theorem dL_law_665 : decode cL_law 665 = .ok (.if_icmp .eq 68, 3) := by decide +kernel
theorem dL_law_668 : decode cL_law 668 = .ok (.iconst 0, 1) := by decide +kernel
theorem dL_law_669 : decode cL_law 669 = .ok (.ireturn, 1) := by decide +kernel
theorem dL_law_670 : decode cL_law 670 = .ok (.aload_n 1, 1) := by decide +kernel
theorem dL_law_671 : decode cL_law 671 = .ok (.invokevirtual 90, 3) := by decide +kernel
theorem dL_law_674 : decode cL_law 674 = .ok (.aload_n 2, 1) := by decide +kernel
theorem dL_law_675 : decode cL_law 675 = .ok (.invokevirtual 93, 3) := by decide +kernel
theorem dL_law_678 : decode cL_law 678 = .ok (.if_icmp .eq 55, 3) := by decide +kernel
theorem dL_law_681 : decode cL_law 681 = .ok (.iconst 0, 1) := by decide +kernel
theorem dL_law_682 : decode cL_law 682 = .ok (.ireturn, 1) := by decide +kernel
theorem dL_law_683 : decode cL_law 683 = .ok (.aload_n 1, 1) := by decide +kernel
end
section
theorem dL_law_684 : decode cL_law 684 = .ok (.invokevirtual 94, 3) := by decide +kernel
theorem dL_law_687 : decode cL_law 687 = .ok (.aload_n 2, 1) := by decide +kernel
theorem dL_law_688 : decode cL_law 688 = .ok (.invokevirtual 97, 3) := by decide +kernel
theorem dL_law_691 : decode cL_law 691 = .ok (.if_icmp .eq 42, 3) := by decide +kernel
theorem dL_law_694 : decode cL_law 694 = .ok (.iconst 0, 1) := by decide +kernel
theorem dL_law_695 : decode cL_law 695 = .ok (.ireturn, 1) := by decide +kernel
theorem dL_law_696 : decode cL_law 696 = .ok (.aload_n 1, 1) := by decide +kernel
theorem dL_law_697 : decode cL_law 697 = .ok (.aload_n 0, 1) := by decide +kernel
theorem dL_law_698 : decode cL_law 698 = .ok (.iload_n 3, 1) := by decide +kernel
theorem dL_law_699 : decode cL_law 699 = .ok (.iconst 1, 1) := by decide +kernel
theorem dL_law_700 : decode cL_law 700 = .ok (.iadd, 1) := by decide +kernel
theorem dL_law_701 : decode cL_law 701 = .ok (.iaload, 1) := by decide +kernel
theorem dL_law_702 : decode cL_law 702 = .ok (.invokevirtual 98, 3) := by decide +kernel
theorem dL_law_705 : decode cL_law 705 = .ok (.aload_n 2, 1) := by decide +kernel
theorem dL_law_706 : decode cL_law 706 = .ok (.aload_n 0, 1) := by decide +kernel
theorem dL_law_707 : decode cL_law 707 = .ok (.iload_n 3, 1) := by decide +kernel
theorem dL_law_708 : decode cL_law 708 = .ok (.iconst 1, 1) := by decide +kernel
theorem dL_law_709 : decode cL_law 709 = .ok (.iadd, 1) := by decide +kernel
theorem dL_law_710 : decode cL_law 710 = .ok (.iaload, 1) := by decide +kernel
theorem dL_law_711 : decode cL_law 711 = .ok (.invokevirtual 101, 3) := by decide +kernel
theorem dL_law_714 : decode cL_law 714 = .ok (.if_icmp .eq 19, 3) := by decide +kernel
theorem dL_law_717 : decode cL_law 717 = .ok (.iconst 0, 1) := by decide +kernel
theorem dL_law_718 : decode cL_law 718 = .ok (.ireturn, 1) := by decide +kernel
theorem dL_law_719 : decode cL_law 719 = .ok (.aload_n 1, 1) := by decide +kernel
theorem dL_law_720 : decode cL_law 720 = .ok (.invokevirtual 102, 3) := by decide +kernel
theorem dL_law_723 : decode cL_law 723 = .ok (.aload_n 2, 1) := by decide +kernel
theorem dL_law_724 : decode cL_law 724 = .ok (.invokevirtual 106, 3) := by decide +kernel
theorem dL_law_727 : decode cL_law 727 = .ok (.lcmp, 1) := by decide +kernel
theorem dL_law_728 : decode cL_law 728 = .ok (.ifCond .eq 5, 3) := by decide +kernel
theorem dL_law_731 : decode cL_law 731 = .ok (.iconst 0, 1) := by decide +kernel
theorem dL_law_732 : decode cL_law 732 = .ok (.ireturn, 1) := by decide +kernel
theorem dL_law_733 : decode cL_law 733 = .ok (.iinc 3 6, 3) := by decide +kernel
theorem dL_law_736 : decode cL_law 736 = .ok (.goto (-718), 3) := by decide +kernel
theorem dL_law_739 : decode cL_law 739 = .ok (.iconst 1, 1) := by decide +kernel
theorem dL_law_740 : decode cL_law 740 = .ok (.ireturn, 1) := by decide +kernel
abbrev vwCl : List vw_C := [(RX0, TX0, 4), (RX1, TX1, 1), (RX2, TX2, 4), (RX3, TX3, 6), (RX4, TX4, 11), (RX5, TX5, 16)]
end
section
/-! plain facts on numbers and arrays, to paste: each family by itself; over the kit's rows on nI and upd -/
/-! ===== order of ints, in all its forms, and through longs ===== -/
theorem fa_lt (a b : Int32) : a < b ↔ a.toInt < b.toInt := Int32.lt_iff_toInt_lt
theorem fa_le (a b : Int32) : a ≤ b ↔ a.toInt ≤ b.toInt := Int32.le_iff_toInt_le
theorem fa_eq (a b : Int32) : a = b ↔ a.toInt = b.toInt := Int32.toInt_inj.symm
theorem fa_lt64 (a b : Int64) : a < b ↔ a.toInt < b.toInt := Int64.lt_iff_toInt_lt
theorem fa_le64 (a b : Int64) : a ≤ b ↔ a.toInt ≤ b.toInt := Int64.le_iff_toInt_le
theorem fa_eq64 (a b : Int64) : a = b ↔ a.toInt = b.toInt := Int64.toInt_inj.symm
/-- a comparison of two ints taken as longs -/
theorem fa_wide_lt (a b : Int32) : a.toInt64 < b.toInt64 ↔ a < b := by rw [fa_lt64, fa_lt, Int32.toInt_toInt64, Int32.toInt_toInt64]
theorem fa_wide_le (a b : Int32) : a.toInt64 ≤ b.toInt64 ↔ a ≤ b := by rw [fa_le64, fa_le, Int32.toInt_toInt64, Int32.toInt_toInt64]
theorem fa_wide_eq (a b : Int32) : a.toInt64 = b.toInt64 ↔ a = b := by rw [fa_eq64, fa_eq, Int32.toInt_toInt64, Int32.toInt_toInt64]
/-- one strict comparison gives all the others -/
theorem fa_of_lt {a b : Int32} (h : a < b) : a ≤ b ∧ ¬ b ≤ a ∧ ¬ b < a ∧ a ≠ b ∧ b ≠ a := by
  rw [fa_lt] at h
  refine ⟨?_, ?_, ?_, ?_, ?_⟩
  · rw [fa_le]; omega
  · rw [fa_le]; omega
  · rw [fa_lt]; omega
  · intro e; rw [fa_eq] at e; omega
  · intro e; rw [fa_eq] at e; omega
theorem fa_of_nlt {a b : Int32} (h : ¬ a < b) : b ≤ a := by
  rw [fa_lt] at h
  rw [fa_le]
  omega
theorem fa_of_nle {a b : Int32} (h : ¬ a ≤ b) : b < a := by
  rw [fa_le] at h
  rw [fa_lt]
  omega
theorem fa_le_ne {a b : Int32} (h : a ≤ b) (h2 : a ≠ b) : a < b := by
  rw [fa_le] at h
  rw [fa_lt]
  have h3 : a.toInt ≠ b.toInt := fun e => h2 ((fa_eq a b).mpr e)
  omega
theorem fa_three (a b : Int32) : a < b ∨ a = b ∨ b < a := by
  rw [fa_lt, fa_lt, fa_eq]
  omega
theorem fa_trans {a b c : Int32} (h : a < b) (h2 : b ≤ c) : a < c := by
  rw [fa_lt] at *
  rw [fa_le] at h2
  omega
/-! ===== small literals as numbers ===== -/
theorem fa_lit (n : Nat) : (OfNat.ofNat n : Int32) = nI n := rfl
theorem fa_litL (n : Nat) : (OfNat.ofNat n : Int64) = lN n := rfl
/-! ===== bits of a number: 'or', masks, one bit ===== -/
theorem fa_and (a b : Nat) : nI a &&& nI b = nI (a &&& b) := by
  apply Int32.toBitVec_inj.1
  show BitVec.ofNat 32 a &&& BitVec.ofNat 32 b = BitVec.ofNat 32 (a &&& b)
  apply BitVec.eq_of_getLsbD_eq
  intro i hi
  simp [hi]
theorem fa_or (a b : Nat) : nI a ||| nI b = nI (a ||| b) := by
  apply Int32.toBitVec_inj.1
  show BitVec.ofNat 32 a ||| BitVec.ofNat 32 b = BitVec.ofNat 32 (a ||| b)
  apply BitVec.eq_of_getLsbD_eq
  intro i hi
  simp [hi]
/-- a remainder by a power of two, as a mask -/
theorem fa_mask (n k : Nat) : nI n &&& nI (2 ^ k - 1) = nI (n % 2 ^ k) := by rw [fa_and, Nat.and_two_pow_sub_one_eq_mod]
/-- 'or' of a high part and a low one that don't meet is their sum -/
theorem fa_or_sum {a k : Nat} (b : Nat) (h : a < 2 ^ k) : nI (2 ^ k * b) ||| nI a = nI (2 ^ k * b + a) := by rw [fa_or, Nat.two_pow_add_eq_or_of_lt h]
/-- one bit, by 'and' with a power of two -/
theorem fa_bit {n j : Nat} (hj : j < 31) : nI n &&& nI (2 ^ j) = 0 ↔ n.testBit j = false := by
  have h2 : (2 : Nat) ^ j < 2 ^ 31 := Nat.pow_lt_pow_right (by decide) hj
  have hle : n &&& 2 ^ j ≤ 2 ^ j := Nat.and_le_right
  have e : n &&& 2 ^ j = 0 ↔ n.testBit j = false := by
    constructor
    · intro h
      have h1 : (n &&& 2 ^ j).testBit j = false := by rw [h]; simp
      rw [Nat.testBit_and] at h1
      first | simpa using h1 | simpa [Nat.testBit_two_pow_self] using h1 | simpa [Nat.testBit_two_pow] using h1
    · intro h
      apply Nat.eq_of_testBit_eq
      intro i
      rw [Nat.testBit_and]
      by_cases hi : j = i
      · subst hi; simp [h]
      · first | (simp [Nat.testBit_two_pow, hi]; done) | (simp [Nat.testBit_two_pow_of_ne hi]; done)
  rw [fa_and]
  constructor
  · intro h
    apply e.mp
    rcases Nat.eq_zero_or_pos (n &&& 2 ^ j) with z | z
    · exact z
    · exact absurd h (nI_ne0 z (Nat.lt_of_le_of_lt hle h2))
  · intro h
    rw [e.mpr h]; exact nI_0
/-- a remainder by a power of two of a number that isn't negative, as Java divides -/
theorem fa_rem {a k : Nat} (ha : a < 2 ^ 31) (hk : k < 31) : nI a - nI a / nI (2 ^ k) * nI (2 ^ k) = nI (a % 2 ^ k) := pk_rem ha (Nat.two_pow_pos k) (Nat.pow_lt_pow_right (by decide) hk)
/-! ===== cuts to a byte, a short ===== -/
theorem fa_byte_xor (x y : Int32) : (x ^^^ y).toInt8 = x.toInt8 ^^^ y.toInt8 := by
  apply Int8.toBitVec_inj.1
  apply BitVec.eq_of_getLsbD_eq
  intro i hi
  first | (simp [hi]; done) | (simp [hi, BitVec.getLsbD_setWidth, BitVec.getLsbD_signExtend]; done)
theorem fa_short_xor (x y : Int32) : (x ^^^ y).toInt16 = x.toInt16 ^^^ y.toInt16 := by
  apply Int16.toBitVec_inj.1
  apply BitVec.eq_of_getLsbD_eq
  intro i hi
  first | (simp [hi]; done) | (simp [hi, BitVec.getLsbD_setWidth, BitVec.getLsbD_signExtend]; done)
/-- the cut to a byte sees the low byte alone -/
theorem fa_byte_low (x : Int32) : (x &&& 255).toInt8 = x.toInt8 := by
  apply Int8.toBitVec_inj.1
  apply BitVec.eq_of_getLsbD_eq
  intro i hi
  have h2 : (255 : Int32).toBitVec.getLsbD i = true := by
    have : ∀ j : Fin 8, (255 : Int32).toBitVec.getLsbD j.val = true := by decide +kernel
    exact this ⟨i, hi⟩
  have h4 : (x &&& 255).toBitVec.getLsbD i = x.toBitVec.getLsbD i := by
    show (x.toBitVec &&& (255 : Int32).toBitVec).getLsbD i = _
    rw [BitVec.getLsbD_and, h2, Bool.and_true]
  have h3 : i < 32 := by omega
  first
    | (show (((x &&& 255).toBitVec).signExtend 8).getLsbD i = (x.toBitVec.signExtend 8).getLsbD i; rw [BitVec.getLsbD_signExtend, BitVec.getLsbD_signExtend, if_pos h3, if_pos h3, h4])
    | (show (((x &&& 255).toBitVec).setWidth 8).getLsbD i = (x.toBitVec.setWidth 8).getLsbD i; rw [BitVec.getLsbD_setWidth, BitVec.getLsbD_setWidth, h4])
    | (simp [hi, h3, h4]; done)
theorem fa_short_low (x : Int32) : (x &&& 65535).toInt16 = x.toInt16 := by
  apply Int16.toBitVec_inj.1
  apply BitVec.eq_of_getLsbD_eq
  intro i hi
  have h2 : (65535 : Int32).toBitVec.getLsbD i = true := by
    have : ∀ j : Fin 16, (65535 : Int32).toBitVec.getLsbD j.val = true := by decide +kernel
    exact this ⟨i, hi⟩
  have h4 : (x &&& 65535).toBitVec.getLsbD i = x.toBitVec.getLsbD i := by
    show (x.toBitVec &&& (65535 : Int32).toBitVec).getLsbD i = _
    rw [BitVec.getLsbD_and, h2, Bool.and_true]
  have h3 : i < 32 := by omega
  first
    | (show (((x &&& 65535).toBitVec).signExtend 16).getLsbD i = (x.toBitVec.signExtend 16).getLsbD i; rw [BitVec.getLsbD_signExtend, BitVec.getLsbD_signExtend, if_pos h3, if_pos h3, h4])
    | (show (((x &&& 65535).toBitVec).setWidth 16).getLsbD i = (x.toBitVec.setWidth 16).getLsbD i; rw [BitVec.getLsbD_setWidth, BitVec.getLsbD_setWidth, h4])
    | (simp [hi, h3, h4]; done)
/-- a small number is its own byte, its own short -/
theorem fa_byte_small {n : Nat} (h : n < 128) : (nI n).toInt8.toInt32 = nI n := by
  have : ∀ j : Fin 128, (nI j.val).toInt8.toInt32 = nI j.val := by decide +kernel
  exact this ⟨n, h⟩
/-! ===== absolute difference ===== -/
theorem fa_absdiff {a b : Nat} (ha : a < 2 ^ 31) (hb : b < 2 ^ 31) : (if nI a < nI b then nI b - nI a else nI a - nI b) = nI (if a < b then b - a else a - b) := by
  by_cases h : a < b
  · rw [if_pos (nI_lt h hb), if_pos h]
    exact pk_sub (Nat.le_of_lt h)
  · rw [if_neg (nI_nlt (Nat.le_of_not_lt h) ha), if_neg h]
    exact pk_sub (Nat.le_of_not_lt h)
/-! ===== an array behind i stores, a conditional store, a row copied ===== -/
/-- f where k < i, what stood there else -/
def fa_fill {α : Type} (f g : Nat → α) (i : Nat) : Nat → α := fun k => if k < i then f k else g k
theorem fa_fill_0 {α : Type} (f g : Nat → α) : fa_fill f g 0 = g := funext fun k => if_neg (Nat.not_lt_zero k)
theorem fa_fill_in {α : Type} {f g : Nat → α} {i k : Nat} (h : k < i) : fa_fill f g i k = f k := if_pos h
theorem fa_fill_out {α : Type} {f g : Nat → α} {i k : Nat} (h : i ≤ k) : fa_fill f g i k = g k := if_neg (Nat.not_lt.mpr h)
theorem fa_fill_succ (f g : Nat → Int32) (i : Nat) : upd (fa_fill f g i) i (f i) = fa_fill f g (i + 1) := by
  funext k
  by_cases e : k = i
  · subst e
    rw [pk_us]
    exact (if_pos (Nat.lt_succ_self k)).symm
  · rw [pk_un e]
    by_cases h : k < i
    · rw [fa_fill_in h, fa_fill_in (Nat.lt_succ_of_lt h)]
    · rw [fa_fill_out (Nat.le_of_not_lt h), fa_fill_out (by omega)]
/-- a store that changes nothing -/
theorem fa_upd_same {f : Nat → Int32} {i : Nat} {x : Int32} (h : f i = x) : upd f i x = f := by
  funext k
  by_cases e : k = i
  · subst e
    rw [pk_us, h]
  · rw [pk_un e]
/-- a store under a condition, told as one -/
theorem fa_upd_if (c : Prop) [Decidable c] (f : Nat → Int32) (i : Nat) (x : Int32) : (if c then upd f i x else f) = upd f i (if c then x else f i) := by
  by_cases h : c
  · rw [if_pos h, if_pos h]
  · rw [if_neg h, if_neg h, fa_upd_same rfl]
/-- two stores at one place, at two -/
theorem fa_upd_twice (f : Nat → Int32) (i : Nat) (x y : Int32) : upd (upd f i x) i y = upd f i y := by
  funext k
  by_cases e : k = i
  · subst e
    rw [pk_us, pk_us]
  · rw [pk_un e, pk_un e, pk_un e]
theorem fa_upd_swap (f : Nat → Int32) {i j : Nat} (h : i ≠ j) (x y : Int32) : upd (upd f i x) j y = upd (upd f j y) i x := by
  funext k
  by_cases e : k = i
  · subst e
    rw [pk_un h, pk_us, pk_us]
  · by_cases e2 : k = j
    · subst e2
      rw [pk_us, pk_un e, pk_us]
    · rw [pk_un e2, pk_un e, pk_un e, pk_un e2]
/-! ===== the first index with a property; a count ===== -/
/-- the first k < n with p k, n if there is none -/
def fa_first (p : Nat → Bool) : Nat → Nat
  | 0 => 0
  | n + 1 => if fa_first p n < n then fa_first p n else if p n then n else n + 1
theorem fa_first_le (p : Nat → Bool) : ∀ n, fa_first p n ≤ n
  | 0 => Nat.le_refl 0
  | n + 1 => by
    have ih := fa_first_le p n
    unfold fa_first
    split
    · omega
    · split
      · omega
      · omega
theorem fa_first_no (p : Nat → Bool) : ∀ n k, k < fa_first p n → p k = false
  | 0, k, h => absurd h (Nat.not_lt_zero k)
  | n + 1, k, h => by
    have ih := fa_first_no p n
    have hl := fa_first_le p n
    unfold fa_first at h
    split at h
    · exact ih k h
    · rename_i h1
      split at h
      · exact ih k (by omega)
      · rename_i h2
        by_cases e : k = n
        · subst e
          exact Bool.eq_false_iff.mpr h2
        · exact ih k (by omega)
theorem fa_first_yes (p : Nat → Bool) : ∀ n, fa_first p n < n → p (fa_first p n) = true
  | 0, h => absurd h (Nat.not_lt_zero _)
  | n + 1, h => by
    have ih := fa_first_yes p n
    have hl := fa_first_le p n
    unfold fa_first at h ⊢
    split at h
    · rename_i h1
      rw [if_pos h1]
      exact ih h1
    · rename_i h1
      rw [if_neg h1]
      split at h
      · rename_i h2
        rw [if_pos h2]
        exact h2
      · omega
/-- how many k < n have p k -/
def fa_cnt (p : Nat → Bool) : Nat → Nat
  | 0 => 0
  | n + 1 => fa_cnt p n + if p n then 1 else 0
theorem fa_cnt_le (p : Nat → Bool) : ∀ n, fa_cnt p n ≤ n
  | 0 => Nat.le_refl 0
  | n + 1 => by
    have ih := fa_cnt_le p n
    unfold fa_cnt
    split
    · omega
    · omega
theorem fa_cnt_yes {p : Nat → Bool} {n : Nat} (h : p n = true) : fa_cnt p (n + 1) = fa_cnt p n + 1 := by rw [fa_cnt, if_pos h]
theorem fa_cnt_no {p : Nat → Bool} {n : Nat} (h : p n = false) : fa_cnt p (n + 1) = fa_cnt p n := by rw [fa_cnt, if_neg (by rw [h]; decide)]; rfl
theorem fa_cnt_cong {p q : Nat → Bool} : ∀ {n : Nat}, (∀ k, k < n → p k = q k) → fa_cnt p n = fa_cnt q n
  | 0, _ => rfl
  | n + 1, h => by rw [fa_cnt, fa_cnt, fa_cnt_cong (fun k hk => h k (Nat.lt_succ_of_lt hk)), h n (Nat.lt_succ_self n)]
/-! ===== an answer carried into a post; a branch on a boolean answer ===== -/
theorem fa_post {α : Type} {P : α → Prop} {x y : α} (h : x = y) (hp : P y) : P x := h ▸ hp
theorem fa_post2 {α β : Type} {P : α → β → Prop} {x y : α} {u v : β} (h : x = y) (h2 : u = v) (hp : P y v) : P x u := h ▸ h2 ▸ hp
theorem fa_bool {r : Int32} {b : Bool} (h : r = if b then 1 else 0) : (r = 0 ↔ b = false) ∧ (¬ r = 0 ↔ b = true) := by
  subst h
  cases b
  · exact ⟨⟨fun _ => rfl, fun _ => rfl⟩, ⟨fun h => absurd rfl h, fun h => absurd h (by decide)⟩⟩
  · exact ⟨⟨fun h => absurd h (by decide), fun h => absurd h (by decide)⟩, ⟨fun _ => rfl, fun _ => by decide⟩⟩
/-- a boolean's narrowing changes nothing -/
theorem fa_bool_and {r : Int32} (h : r = 0 ∨ r = 1) : r &&& 1 = r := by
  rcases h with rfl | rfl
  · decide
  · decide
theorem fa_bool_prop {c : Prop} [Decidable c] {r : Int32} (h : r = if c then 1 else 0) : (r = 0 ↔ ¬ c) ∧ (¬ r = 0 ↔ c) := by
  subst h
  by_cases hc : c
  · rw [if_pos hc]
    exact ⟨⟨fun h => absurd h (by decide), fun h => absurd hc h⟩, ⟨fun _ => hc, fun _ => by decide⟩⟩
  · rw [if_neg hc]
    exact ⟨⟨fun _ => hc, fun _ => rfl⟩, ⟨fun h => absurd rfl h, fun h => absurd h hc⟩⟩
end
section
/-! THE BASE: what every contract of this claim carries; a method's start and end; a call in one row. -/
abbrev tyL (cI cB cO : ClassId) : List (ClassId × FieldType) := [(cI, .int), (cB, .byte), (cO, .object "HoseSpans$Line")]
def kHard (j : Nat) : Int32 := ([80, 20, 8, 2] : List Int32).getD j 0
def kStands (j : Nat) : Int32 := ([100, 120, 150, 180] : List Int32).getD j 0
def kFirst (j : Nat) : Int32 := ([10, 20, 30, 100, 5, 0] : List Int32).getD j 0
def kLow (j : Nat) : Int32 := ([1, 0, 0, 20, 0, 0] : List Int32).getD j 0
def kHigh (j : Nat) : Int32 := ([30, 100, 100, 180, 20, 99] : List Int32).getD j 0
/-- a static array: the static holds it, and what it holds -/
def sArr (n : String) (N : Nat) (f : Nat → Int32) (A : Nat → Prop) (U : State) (H : Heap) : Prop := ∃ t : Nat, va_Z "HoseSpans" n "[I" (.ref t) A U H ∧ va_T .int t N (fun j => .int (f j)) A U H
def Stt (A : Nat → Prop) (U : State) (H : Heap) : Prop := sArr "HARD" 4 kHard A U H ∧ sArr "STANDS" 4 kStands A U H ∧ sArr "SETTING_AT_FIRST" 6 kFirst A U H ∧ sArr "SETTING_LOWEST" 6 kLow A U H ∧ sArr "SETTING_HIGHEST" 6 kHigh A U H
theorem sArr.to {n : String} {N : Nat} {f : Nat → Int32} {A0 B : Nat → Prop} {s U : State} {H : Heap} {locs : List Loc} (h : sArr n N f A0 s s.heap) (hS : va_S A0 s.heap H locs) (hvm : s.vm.Alike U.vm) (hAB : ∀ q, B q → A0 q) : sArr n N f B U H := by
  obtain ⟨t, h1, h2⟩ := h
  exact ⟨t, ((h1.kept hS.2.1).moved hvm).narrow hAB, ((h2.kept hS.2.1).moved hvm).narrow hAB⟩
theorem Stt.to {A0 B : Nat → Prop} {s U : State} {H : Heap} {locs : List Loc} (h : Stt A0 s s.heap) (hS : va_S A0 s.heap H locs) (hvm : s.vm.Alike U.vm) (hAB : ∀ q, B q → A0 q) : Stt B U H :=
  ⟨h.1.to hS hvm hAB, h.2.1.to hS hvm hAB, h.2.2.1.to hS hvm hAB, h.2.2.2.1.to hS hvm hAB, h.2.2.2.2.to hS hvm hAB⟩
/-- what nest mates link, and the class of the rows of lines -/
def Nst (U : State) : Prop :=
  va_Nw (.methodLinkNest RX0 34 yX4_within RX4) U ∧ va_Nw (.methodLinkNest RX3 54 yX4_within RX4) U ∧
  va_Nw (.methodLinkNest RX4 41 yX3_init RX4) U ∧ va_Nw (.methodLinkNest RX4 48 yX2_init RX4) U ∧ va_Nw (.methodLinkNest RX4 55 yX1_init RX4) U ∧
  va_Nw (.fieldLinkNest RX0 25 "HoseSpans" "SETTING_AT_FIRST" "[I" "HoseSpans") U ∧ va_Nw (.fieldLinkNest RX0 45 "HoseSpans" "SETTING_LOWEST" "[I" "HoseSpans") U ∧ va_Nw (.fieldLinkNest RX0 48 "HoseSpans" "SETTING_HIGHEST" "[I" "HoseSpans") U ∧
  va_Nw (.fieldLinkNest RX0 71 "HoseSpans" "HARD" "[I" "HoseSpans") U ∧ va_Nw (.fieldLinkNest RX0 74 "HoseSpans" "STANDS" "[I" "HoseSpans") U ∧ va_AO "HoseSpans$Line" U
theorem Nst.warm {s U : State} (hW : s.WarmedH U.vm) (h : Nst s) : Nst U := by
  obtain ⟨h1, h2, h3, h4, h5, h6, h7, h8, h9, h10, h11⟩ := h
  exact ⟨va_Nw.warmM hW h1, va_Nw.warmM hW h2, va_Nw.warmM hW h3, va_Nw.warmM hW h4, va_Nw.warmM hW h5, va_Nw.warmF hW h6, va_Nw.warmF hW h7, va_Nw.warmF hW h8, va_Nw.warmF hW h9, va_Nw.warmF hW h10, h11.moved hW.alike⟩
def Sta (A : Nat → Prop) (U : State) (H : Heap) : Prop := Nst U ∧ Stt A U H
def cPre (D : va_G) (tys : List (ClassId × FieldType)) (av : List Value) (w0 : va_W) (sz : Nat) : Array Value → State → Prop := va_Pc av (fun U => U.heap.size = sz ∧ va_P D vwCl w0 U.heap ∧ va_K D vwCl tys U ∧ va_D (fun _ => True) w0 ∧ Sta (va_A w0 sz) U U.heap)
theorem cPre_blind {D : va_G} {tys : List (ClassId × FieldType)} {av : List Value} {w0 : va_W} {sz : Nat} : FrameBlind (cPre D tys av w0 sz) := by
  intro a U g mk h
  obtain ⟨h1, h2, h3, h4, h5, h6, h7⟩ := h
  have hvm : U.vm.Alike (U.calling g mk a).vm := Vm.Alike.refl U.vm
  refine ⟨h1, h2, h3, va_K.moved (u := U) (U := U.calling g mk a) hvm h4, h5, ?_, ?_⟩
  · obtain ⟨g1, g2, g3, g4, g5, g6, g7, g8, g9, g10, g11⟩ := h6
    exact ⟨g1.same rfl rfl, g2.same rfl rfl, g3.same rfl rfl, g4.same rfl rfl, g5.same rfl rfl, g6.same rfl rfl, g7.same rfl rfl, g8.same rfl rfl, g9.same rfl rfl, g10.same rfl rfl, g11.moved hvm⟩
  · exact h7.to (A0 := va_A w0 sz) (s := U) (U := U.calling g mk a) va_S.rf hvm (fun _ h => h)
theorem fm_of {α : Type} {f : Nat → Option α} : ∀ (is : List Nat) (ws : List α), is.map f = ws.map some → is.filterMap f = ws
  | [], [], _ => rfl
  | [], _ :: _, h => by simp at h
  | _ :: _, [], h => by simp at h
  | i :: is, w :: ws, h => by
    simp only [List.map_cons, List.cons.injEq] at h
    rw [List.filterMap_cons, h.1]
    exact congrArg (w :: ·) (fm_of is ws h.2)
theorem preS_of {D : va_G} {tys : List (ClassId × FieldType)} {s : State} {H : Heap} {locs : List Loc} {A0 : Nat → Prop} {w wc : va_W} {As : List Value} (hK : va_K D vwCl tys s) (hP : va_P D vwCl w H) (hD : va_D A0 w) (hS : va_S A0 s.heap H locs) (hA : ∀ q, s.heap.size ≤ q → A0 q) (hSt : Sta A0 s s.heap) (isC : List Nat) (hn : va_nd isC = true) (hC : isC.map (fun i => w[i]?) = wc.map some) : PreS s H (cPre D tys As wc H.size) As := by
  refine ⟨cPre_blind, fun U hU hW => ⟨rfl, by rw [hU], by rw [hU]; exact hP.sub isC (fm_of _ _ hC), va_K.moved hW.alike hK, (hD.sub isC hn hC).weaken (fun _ _ _ _ => trivial), hSt.1.warm hW, ?_⟩⟩
  rw [hU]
  exact hSt.2.to hS hW.alike (va_free hD hS hA isC hC)
theorem preV_of {D : va_G} {tys : List (ClassId × FieldType)} {s : State} {H : Heap} {locs : List Loc} {A0 : Nat → Prop} {w wc : va_W} {b : Addr} {As : List Value} (hK : va_K D vwCl tys s) (hP : va_P D vwCl w H) (hD : va_D A0 w) (hS : va_S A0 s.heap H locs) (hA : ∀ q, s.heap.size ≤ q → A0 q) (hSt : Sta A0 s s.heap) (isC : List Nat) (hn : va_nd isC = true) (hC : isC.map (fun i => w[i]?) = wc.map some) (q0 : Nat) {ci : Nat} {q : vw_C} {fs : List Value} (hc : vwCl[ci]? = some q) (he : w[q0]? = some (b, .inr (ci, fs))) : PreV s H q.1 b (cPre D tys (.ref b :: As) wc H.size) As :=
  ⟨cPre_blind, va_recv hK hP hc he, (preS_of (As := .ref b :: As) hK hP hD hS hA hSt isC hn hC).2⟩
/-- the ends, by what is answered -/
abbrev QI {S : Type} (D : va_G) (post : Int32 → S → Prop) (w1 : S → va_W) (A : Nat → Prop) : Array Value → State → Outcome → State → Prop := va_Qi post (fun u t => va_P D vwCl (w1 u) t.heap ∧ va_D A (w1 u)) A
abbrev QV {S : Type} (D : va_G) (post : S → Prop) (w1 : S → va_W) (A : Nat → Prop) : Array Value → State → Outcome → State → Prop := va_Qv post (fun u t => va_P D vwCl (w1 u) t.heap ∧ va_D A (w1 u)) A
abbrev QL {S : Type} (D : va_G) (post : Int64 → S → Prop) (w1 : S → va_W) (A : Nat → Prop) : Array Value → State → Outcome → State → Prop := va_Ql post (fun u t => va_P D vwCl (w1 u) t.heap ∧ va_D A (w1 u)) A
/-- contracts: with the answer an int, none, a long -/
abbrev CI {S : Type} (l : Launch) (y : MethodName) (ws : List Cond) (rm : Room) (D : va_G) (tys : List (ClassId × FieldType)) (av : List Value) (w0 : va_W) (sz : Nat) (post : Int32 → S → Prop) (w1 : S → va_W) (mc ms : Nat) : Prop := Met l y ws rm (cPre D tys av w0 sz) (QI D post w1 (va_A w0 sz)) mc ms (va_A w0 sz)
abbrev CV {S : Type} (l : Launch) (y : MethodName) (ws : List Cond) (rm : Room) (D : va_G) (tys : List (ClassId × FieldType)) (av : List Value) (w0 : va_W) (sz : Nat) (post : S → Prop) (w1 : S → va_W) (mc ms : Nat) : Prop := Met l y ws rm (cPre D tys av w0 sz) (QV D post w1 (va_A w0 sz)) mc ms (va_A w0 sz)
abbrev CL {S : Type} (l : Launch) (y : MethodName) (ws : List Cond) (rm : Room) (D : va_G) (tys : List (ClassId × FieldType)) (av : List Value) (w0 : va_W) (sz : Nat) (post : Int64 → S → Prop) (w1 : S → va_W) (mc ms : Nat) : Prop := Met l y ws rm (cPre D tys av w0 sz) (QL D post w1 (va_A w0 sz)) mc ms (va_A w0 sz)
/-- a method's start -/
theorem ct_of {l : Launch} {y : MethodName} {ws ws' : List Cond} {rm : Room} {D : va_G} {tys : List (ClassId × FieldType)} {av : List Value} {w0 : va_W} {sz : Nat} {Qc : (Nat → Prop) → Array Value → State → Outcome → State → Prop} {mc ms : Nat} {cc : ByteArray} {maxL : Nat} {ret : Option FieldType} {own : String} (hy : plainName y.cls = true) (hw : ws = Cond.code y cc maxL ret :: ws') (ho : y.cls = own) (hav : (lg_sl av).length ≤ maxL)
    (k : ∀ (p : Program) (e : Env) (s : State) (m : MethodId) (below : List Frame) (meth : Method) (c : Code) (A : Nat → Prop) (ls : Array Slot) (H : Heap) (locs : List Loc), p.tables.exec = Jvm.exec → c.code = cc → meth.sig.returnType = ret → (∀ w ∈ ws, w.before av.toArray s = true) → s.vm.findClass own = some m.cls → meth.locks = false → c.maxLocals = maxL → meth.name = y.name →
      va_K D vwCl tys s → va_P D vwCl w0 H → va_D A w0 → va_S A s.heap H locs → (∀ q : Nat, s.heap.size ≤ q → A q) → Sta A s s.heap → lv_has ls maxL (lv_args 0 av) → W p l e rm s m av.toArray below meth c H locs 0 0 (MQ below (Qc A) av.toArray s mc ms A) (F0 m 0 ls [])) : Met l y ws rm (cPre D tys av w0 sz) (Qc (va_A w0 sz)) mc ms (va_A w0 sz) := by
  refine Met.ofW (cc := cc) (maxL := maxL) (ret := ret) hy hw ?_
  intro p e s m args below meth c s₁ B hml hv
  obtain ⟨rfl, hsz, hP, hK, hD0, hSt⟩ := hv
  subst hsz
  have hD := hD0.self (sz := s.heap.size)
  have hown : s.vm.findClass own = some m.cls := by rw [← ho]; exact findClass_of_methodNamed B.named
  rw [lg_entry_eq]
  exact k p e s m below meth c _ _ _ _ B.exec B.bytes B.returns (atoms_spec B.pre) hown B.notSynchronized hml (name_of_methodNamed B.named B.method).1 hK hP hD va_S.rf (fun q h => Or.inr h) hSt (lv_entry av hav)
section ENDS
variable {p : Program} {l : Launch} {e : Env} {R : Room} {s : State} {m : MethodId} {args : Array Value} {below : List Frame} {meth : Method} {c : Code} {H : Heap} {locs : List Loc} {cells slots : Nat} {Q : State → Prop}
variable {cc : ByteArray} {pc : Nat} {ls : Array Slot} {rest st0 : List Value} {D : va_G} {A : Nat → Prop} {w : va_W}
theorem e_i {S : Type} {post : Int32 → S → Prop} {w1 : S → va_W} {v : Int32} (u : S) (hx : p.tables.exec = Jvm.exec) (hb : c.code = cc) (hr : meth.sig.returnType = some .int) (hlocks : meth.locks = false) (hP : va_P D vwCl w H) (hD : va_D A w) (hS : va_S A s.heap H locs) (hdg : decode cc pc = .ok (.ireturn, 1)) (hw : w = w1 u) (hp : post v u) : W p l e R s m args below meth c H locs cells slots (MQ below (QI D post w1 A) args s cells slots A) (F0 m pc ls [.int v]) :=
  W.iret hx hb hr (fun t ht _ => ⟨⟨v, u, rfl, hp, by rw [ht, ← hw]; exact hP, hw ▸ hD⟩, hS.F ht⟩) hS.2.2 hdg hlocks
theorem e_z {S : Type} {post : Int32 → S → Prop} {w1 : S → va_W} {v : Int32} {ty : FieldType} (u : S) (hx : p.tables.exec = Jvm.exec) (hb : c.code = cc) (hr : meth.sig.returnType = some ty) (hn : narrow ty (.int v) = .int v) (hlocks : meth.locks = false) (hP : va_P D vwCl w H) (hD : va_D A w) (hS : va_S A s.heap H locs) (hdg : decode cc pc = .ok (.ireturn, 1)) (hw : w = w1 u) (hp : post v u) : W p l e R s m args below meth c H locs cells slots (MQ below (QI D post w1 A) args s cells slots A) (F0 m pc ls [.int v]) :=
  W.zret hx hb hr hn (fun t ht _ => ⟨⟨v, u, rfl, hp, by rw [ht, ← hw]; exact hP, hw ▸ hD⟩, hS.F ht⟩) hS.2.2 hdg hlocks
theorem e_l {S : Type} {post : Int64 → S → Prop} {w1 : S → va_W} {v : Int64} (u : S) (hx : p.tables.exec = Jvm.exec) (hb : c.code = cc) (hr : meth.sig.returnType = some .long) (hlocks : meth.locks = false) (hP : va_P D vwCl w H) (hD : va_D A w) (hS : va_S A s.heap H locs) (hdg : decode cc pc = .ok (.lreturn, 1)) (hw : w = w1 u) (hp : post v u) : W p l e R s m args below meth c H locs cells slots (MQ below (QL D post w1 A) args s cells slots A) (F0 m pc ls [.long v]) :=
  W.lret hx hb hr (fun t ht _ => ⟨⟨v, u, rfl, hp, by rw [ht, ← hw]; exact hP, hw ▸ hD⟩, hS.F ht⟩) hS.2.2 hdg hlocks
theorem e_v {S : Type} {post : S → Prop} {w1 : S → va_W} (u : S) (hx : p.tables.exec = Jvm.exec) (hb : c.code = cc) (hr : meth.sig.returnType = none) (hlocks : meth.locks = false) (hP : va_P D vwCl w H) (hD : va_D A w) (hS : va_S A s.heap H locs) (hdg : decode cc pc = .ok (.return_, 1)) (hw : w = w1 u) (hp : post u) : W p l e R s m args below meth c H locs cells slots (MQ below (QV D post w1 A) args s cells slots A) (F0 m pc ls []) :=
  W.vret hx hb hr (fun t ht _ => ⟨⟨u, rfl, hp, by rw [ht, ← hw]; exact hP, hw ▸ hD⟩, hS.F ht⟩) hS.2.2 hdg hlocks
/-- a number on the stack told otherwise -/
theorem e_n {x y : Int32} (h : x = y) (k : W p l e R s m args below meth c H locs cells slots Q (F0 m pc ls (.int y :: rest))) : W p l e R s m args below meth c H locs cells slots Q (F0 m pc ls (.int x :: rest)) := h ▸ k
/-- the way back from a call: the caller's world with the callee's new cells in it -/
theorem e_join {wc wr w1 w2 : va_W} {H1 : Heap} (hP : va_P D vwCl w H) (hD : va_D A w) (hS : va_S A s.heap H locs) (hA : ∀ q, s.heap.size ≤ q → A q) (isC isR pm : List Nat) (hC : isC.map (fun i => w[i]?) = wc.map some) (hR : isR.map (fun i => w[i]?) = wr.map some) (hn : va_nd isR = true) (hdis : ∀ i ∈ isR, i ∉ isC) (hk : ∀ q : Nat, q < H.size → ¬ va_A wc H.size q → H1[q]? = H[q]?) (hP1 : va_P D vwCl w1 H1) (hD1 : va_D (va_A wc H.size) w1) (hpn : va_nd pm = true) (hp : pm.map (fun i => (wr ++ w1)[i]?) = w2.map some) : va_P D vwCl w2 H1 ∧ va_D A w2 := by
  obtain ⟨h1, h2⟩ := va_join hP hD isC isR hC hR hn hdis hk (va_free hD hS hA isC hC) hP1 hD1
  exact ⟨h1.sub pm (fm_of _ _ hp), h2.sub pm hpn hp⟩
variable {mc ms : Nat} {a : Array Value}
theorem k_i {S : Type} {post : Int32 → S → Prop} {w1 : S → va_W} {wc : va_W} (hr : va_Run p l e R s m args below meth c H locs cells slots mc ms (F0 m pc ls st0) rest (QI D post w1 (va_A wc H.size) a) (va_A wc H.size)) (hP : va_P D vwCl w H) (hD : va_D A w) (hS : va_S A s.heap H locs) (hA : ∀ q, s.heap.size ≤ q → A q) (isC isR pm : List Nat) (wr : va_W) (w2 : S → va_W) (hC : isC.map (fun i => w[i]?) = wc.map some) (hR : isR.map (fun i => w[i]?) = wr.map some) (hn : va_nd isR = true) (hdis : ∀ i ∈ isR, i ∉ isC) (hpn : va_nd pm = true) (hp : ∀ u, pm.map (fun i => (wr ++ w1 u)[i]?) = (w2 u).map some)
    (kk : ∀ (r : Int32) (u : S) (H1 : Heap) (locs1 : List Loc), post r u → va_P D vwCl (w2 u) H1 → va_D A (w2 u) → va_S A s.heap H1 locs1 → W p l e R s m args below meth c H1 locs1 (cells + mc) (slots + ms) Q (F0 m (pc + 3) ls (.int r :: rest))) : W p l e R s m args below meth c H locs cells slots Q (F0 m pc ls st0) := by
  have hF := va_free hD hS hA isC hC
  refine va_calli hr hS (fun q _ h => hF q h) hF (fun r u t H1 locs1 ht hvm hw hB hz hk hS1 => ?_)
  rw [ht] at hB
  obtain ⟨j1, j2⟩ := e_join hP hD hS hA isC isR pm hC hR hn hdis hk hB.1 hB.2 hpn (hp u)
  exact kk r u H1 locs1 hw j1 j2 hS1
theorem k_l {S : Type} {post : Int64 → S → Prop} {w1 : S → va_W} {wc : va_W} (hr : va_Run p l e R s m args below meth c H locs cells slots mc ms (F0 m pc ls st0) rest (QL D post w1 (va_A wc H.size) a) (va_A wc H.size)) (hP : va_P D vwCl w H) (hD : va_D A w) (hS : va_S A s.heap H locs) (hA : ∀ q, s.heap.size ≤ q → A q) (isC isR pm : List Nat) (wr : va_W) (w2 : S → va_W) (hC : isC.map (fun i => w[i]?) = wc.map some) (hR : isR.map (fun i => w[i]?) = wr.map some) (hn : va_nd isR = true) (hdis : ∀ i ∈ isR, i ∉ isC) (hpn : va_nd pm = true) (hp : ∀ u, pm.map (fun i => (wr ++ w1 u)[i]?) = (w2 u).map some)
    (kk : ∀ (r : Int64) (u : S) (H1 : Heap) (locs1 : List Loc), post r u → va_P D vwCl (w2 u) H1 → va_D A (w2 u) → va_S A s.heap H1 locs1 → W p l e R s m args below meth c H1 locs1 (cells + mc) (slots + ms) Q (F0 m (pc + 3) ls (.long r :: rest))) : W p l e R s m args below meth c H locs cells slots Q (F0 m pc ls st0) := by
  have hF := va_free hD hS hA isC hC
  refine va_calll hr hS (fun q _ h => hF q h) hF (fun r u t H1 locs1 ht hvm hw hB hz hk hS1 => ?_)
  rw [ht] at hB
  obtain ⟨j1, j2⟩ := e_join hP hD hS hA isC isR pm hC hR hn hdis hk hB.1 hB.2 hpn (hp u)
  exact kk r u H1 locs1 hw j1 j2 hS1
theorem k_v {S : Type} {post : S → Prop} {w1 : S → va_W} {wc : va_W} (hr : va_Run p l e R s m args below meth c H locs cells slots mc ms (F0 m pc ls st0) rest (QV D post w1 (va_A wc H.size) a) (va_A wc H.size)) (hP : va_P D vwCl w H) (hD : va_D A w) (hS : va_S A s.heap H locs) (hA : ∀ q, s.heap.size ≤ q → A q) (isC isR pm : List Nat) (wr : va_W) (w2 : S → va_W) (hC : isC.map (fun i => w[i]?) = wc.map some) (hR : isR.map (fun i => w[i]?) = wr.map some) (hn : va_nd isR = true) (hdis : ∀ i ∈ isR, i ∉ isC) (hpn : va_nd pm = true) (hp : ∀ u, pm.map (fun i => (wr ++ w1 u)[i]?) = (w2 u).map some)
    (kk : ∀ (u : S) (H1 : Heap) (locs1 : List Loc), post u → va_P D vwCl (w2 u) H1 → va_D A (w2 u) → va_S A s.heap H1 locs1 → W p l e R s m args below meth c H1 locs1 (cells + mc) (slots + ms) Q (F0 m (pc + 3) ls rest)) : W p l e R s m args below meth c H locs cells slots Q (F0 m pc ls st0) := by
  have hF := va_free hD hS hA isC hC
  refine va_callv hr hS (fun q _ h => hF q h) hF (fun u t H1 locs1 ht hvm hw hB hz hk hS1 => ?_)
  rw [ht] at hB
  obtain ⟨j1, j2⟩ := e_join hP hD hS hA isC isR pm hC hR hn hdis hk hB.1 hB.2 hpn (hp u)
  exact kk u H1 locs1 hw j1 j2 hS1
end ENDS
/-! numbers -/
def bI (b : Bool) : Int32 := if b then 1 else 0
theorem bI_nar (b : Bool) : narrow .boolean (.int (bI b)) = .int (bI b) := by cases b <;> rfl
theorem bI_0 {b : Bool} : bI b = 0 ↔ b = false := by cases b <;> simp [bI]
theorem bI_n0 {b : Bool} : ¬ bI b = 0 ↔ b = true := by cases b <;> simp [bI]
/-- v is from lo to hi -/
def inR (v lo hi : Int32) : Bool := decide (lo ≤ v) && decide (v ≤ hi)
theorem inR_t {v lo hi : Int32} : inR v lo hi = true ↔ lo ≤ v ∧ v ≤ hi := by simp [inR]
theorem inR_f {v lo hi : Int32} : inR v lo hi = false ↔ ¬ (lo ≤ v ∧ v ≤ hi) := by
  rw [← inR_t]; cases inR v lo hi <;> simp
theorem inR_nI {v hi : Int32} {n : Nat} (hn : hi.toInt = n) (h : inR v 0 hi = true) : ∃ j : Nat, j ≤ n ∧ v = nI j := by
  obtain ⟨h1, h2⟩ := inR_t.mp h
  exact nI_of2 hn (Int32.not_lt.mpr h1) h2
theorem ne_ti {x y : Int32} {n : Int} (hn : y.toInt = n) (h : ¬ x = y) : x.toInt ≠ n := fun q => h (Int32.toInt_inj.mp (q.trans hn.symm))
section MAKE
variable {p : Program} {l : Launch} {e : Env} {R : Room} {s : State} {m : MethodId} {args : Array Value} {below : List Frame} {meth : Method} {c : Code} {H : Heap} {locs : List Loc} {cells slots : Nat} {Q : State → Prop}
variable {cc : ByteArray} {pc : Nat} {ls : Array Slot} {rest : List Value} {D : va_G} {cl : List vw_C} {A : Nat → Prop} {a : Nat} {tys : List (ClassId × FieldType)} {ws : va_W} {H0 : Heap}
/-- a new row of numbers, its class the known one -/
theorem k_newa (hexec : p.tables.exec = Jvm.exec) (hb : c.code = cc) {atype : ArrayType} (harr : (Cond.arrayClass (newarray.typeOf atype)).before args s = true) {ty : FieldType} (hty : newarray.typeOf atype = ty) {N : Nat} (ha : ∀ cA : ClassId, vp_cell cA (N, .inl (fun _ => 0)) = arrV cA N (fun _ => defaultValue ty)) (hK : va_K D cl tys s) (hP : va_P D cl ws H) (hD : va_D A ws) (hS : va_S A H0 H locs) (hA : ∀ q, H0.size ≤ q → A q) (t0 : Nat) {c0 : ClassId} (ht : tys[t0]? = some (c0, ty)) (hRA : ∀ (U : State) (k : ClassId), va_RA U k ty → U.vm.findClass ("[" ++ ty.toString) = some k)
    {n : Int32} (hn : ¬ n < 0) (hN : n.toNatClampNeg = N) (hbytes : N * componentBytes ty ≤ 536870912) (hcells : cells + 1 ≤ R.cells) (hslots : slots + N ≤ R.slots) (hdg : decode cc pc = .ok (.newarray atype, 2))
    (kk : ∀ (q : Nat) (H1 : Heap), va_P D cl (ws ++ [(q, .inl (c0, N, .inl (fun _ => 0)))]) H1 → va_D A (ws ++ [(q, .inl (c0, N, .inl (fun _ => 0)))]) → va_S A H0 H1 locs →
      W p l e R s m args below meth c H1 locs (cells + 1) (slots + N) Q (F0 m (pc + 2) ls (.ref q :: rest))) : W p l e R s m args below meth c H locs cells slots Q (F0 m pc ls (.int n :: rest)) := by
  refine va_newa (a0 := (N, .inl (fun _ => 0))) hexec hb harr hty hK hP hD hS hA ha hn hN hbytes hcells hslots hdg (fun q cA H1 hK1 hP1 hD1 hS1 => ?_)
  have e1 := hRA s c0 (hK.2 t0 _ ht).2
  have e2 := hRA s cA (hK1.2 tys.length (cA, ty) (by simp)).2
  have e3 : cA = c0 := Option.some.inj (e2.symm.trans e1)
  subst e3
  exact kk q H1 hP1 hD1 hS1
/-- System.arraycopy of ints out of a static array -/
theorem k_copyT {cc : ByteArray} (hexec : p.tables.exec = Jvm.exec) (hb : c.code = cc) (hml : c.maxLocals = ls.size) {own : String} {index : Nat} (hown : s.vm.findClass own = some m.cls) (hlink : (Cond.methodLink own index arraycopyName).before args s = true) (hnat : (Cond.native arraycopyName).before args s = true) (hstat : (Cond.static arraycopyName).before args s = true) (hini : (Cond.initialized "java/lang/System").before args s = true)
    (hK : va_K D cl tys s) (hP : va_P D cl ws H) (hD : va_D A ws) (hS : va_S A s.heap H locs) {b0 n0 : Nat} {f : Nat → Int32} (hX : va_T .int b0 n0 (fun j => .int (f j)) A s s.heap) (q1 t1 : Nat) {c1 : ClassId} {n1 : Nat} {g : Nat → Int32} (ha1 : ws[q1]? = some (a, .inl (c1, n1, .inl g))) (ht1 : tys[t1]? = some (c1, .int))
    {sp dp n : Int32} (h1 : ¬ sp < 0) (h2 : ¬ dp < 0) (h3 : ¬ n < 0) (h4 : sp.toNatClampNeg + n.toNatClampNeg ≤ n0) (h5 : dp.toNatClampNeg + n.toNatClampNeg ≤ n1)
    (hframes : 1 ≤ R.frames) (hlocals : (rest.map fun v => v.category).sum + (nativeFrameWords "java/lang/System" "arraycopy" 5 + 11) ≤ R.locals) (hdg : decode cc pc = .ok (.invokestatic index, 3))
    (kk : ∀ (H1 : Heap) (locs1 : List Loc), va_P D cl (ws.set q1 (a, .inl (c1, n1, .inl (va_cpy f g sp.toNatClampNeg dp.toNatClampNeg n.toNatClampNeg)))) H1 → va_D A (ws.set q1 (a, .inl (c1, n1, .inl (va_cpy f g sp.toNatClampNeg dp.toNatClampNeg n.toNatClampNeg)))) → va_S A s.heap H1 locs1 → W p l e R s m args below meth c H1 locs1 cells slots Q (F0 m (pc + 3) ls rest)) : W p l e R s m args below meth c H locs cells slots Q (F0 m pc ls (.int n :: .int dp :: .ref a :: .int sp :: .ref b0 :: rest)) := by
  have up : ∀ z : Int32, ¬ z < 0 → z.toInt = (z.toNatClampNeg : Int) := fun z hz => by
    have h0 : (0 : Int) ≤ z.toInt := by simpa using Int32.le_iff_toInt_le.mp (Int32.not_lt.mp hz)
    show z.toInt = ((z.toInt.toNat : Nat) : Int)
    omega
  intro T hT X
  obtain ⟨scr, g1, g2, g3, g4, -, g5, g7⟩ := hX
  obtain ⟨g6, k0, hk0, cm0, hkk0⟩ := g2
  have hc0 : H[b0]? = some scr := (hS.2.1 b0 (Array.getElem?_eq_some_iff.mp g1).1 g7).trans g1
  have hc1 : H[a]? = some (vp_cell c1 (n1, .inl g)) := hP q1 _ ha1
  obtain ⟨-, k1, hk1, cm1, hkk1⟩ := (hK.2 t1 _ ht1).1 n1 (fun j => .int (g j))
  have hel : ∀ i : Nat, i < n.toNatClampNeg → scr.slots.getD (sp.toNatClampNeg + i) .null = .int (f (sp.toNatClampNeg + i)) := fun i hi => by
    rw [Array.getD_eq_getD_getElem?, g5 _ (by omega)]
    rfl
  obtain ⟨vm', X', step⟩ := X.arraycopy hexec hown hlink hnat hstat hini (src := b0) (dst := a) (cs := scr) (cd := vp_cell c1 (n1, .inl g)) (srcPos := sp) (destPos := dp) (n := n) (by rw [hT]; exact hc0) (by rw [hT]; exact hc1)
    g6 (fun _ h => by cases h) g3 (fun h => by cases h) hk0 hk1 hkk0 hkk1 (by simp [refKind]) h1 h2 h3
    (by rw [up sp h1, up n h3]; omega)
    (by rw [up dp h2, up n h3]; show ¬ _ > ((arrV c1 n1 (fun j => .int (g j))).slots.size : Int); rw [arrV_size]; omega)
    (fun vm₁ _ i hi => by rw [hel i hi]; exact ⟨rfl, trivial⟩)
    (g := F0 m pc ls (.int n :: .int dp :: .ref a :: .int sp :: .ref b0 :: rest)) rfl (by rw [hml]) (rest := rest) rfl (by rw [hb]; exact hdg) hframes (by show 2 * 0 + _ + _ ≤ _; omega)
  rw [show copied scr (vp_cell c1 (n1, .inl g)) sp dp n = vp_cell c1 (n1, .inl (va_cpy f g sp.toNatClampNeg dp.toNatClampNeg n.toNatClampNeg)) from va_copiedX (fun z => .int z) scr c1 f g g5 h4] at X' step
  have hl : a < H.size := (Array.getElem?_eq_some_iff.mp hc1).1
  generalize hE : vp_cell c1 (n1, .inl (va_cpy f g sp.toNatClampNeg dp.toNatClampNeg n.toNatClampNeg)) = E at X' step
  have oq : ∀ q : Nat, q ≠ a → (H.setIfInBounds a E)[q]? = H[q]? := fun q hq => by simp [Array.getElem?_setIfInBounds, Ne.symm hq]
  have hE1 : (H.setIfInBounds a E)[a]? = some (vp_cell c1 (n1, .inl (va_cpy f g sp.toNatClampNeg dp.toNatClampNeg n.toNatClampNeg))) := by rw [hE]; simp [Array.getElem?_setIfInBounds, hl]
  have hA1 : A a := hD.2 q1 _ ha1
  obtain ⟨t, a1, b1⟩ := kk _ _ (hP.set hD ha1 hE1 oq) (hD.set ha1) ⟨by simp; exact hS.1, fun q j1 j2 => (oq q (fun z => j2 (z ▸ hA1))).trans (hS.2.1 q j1 j2), fun q hq => by
      rcases List.mem_append.mp hq with h | h
      · exact hS.2.2 q h
      · obtain ⟨z, -, hz⟩ := List.mem_map.mp h
        rw [← hz]
        exact hA1⟩ ((T.setVm vm').setCell a E) (by rw [← hT]; rfl) X'
  exact ⟨t, step t a1, b1⟩
end MAKE
end
section
/-! WHAT THE SYSTEM DOES, as functions: a line is (spans, pumps, facts, settings). -/
abbrev Ln : Type := Nat × Int32 × (Nat → Int32) × (Nat → Int32)
abbrev cBAD : Int32 := -1000002
abbrev cNO : Int32 := -1000003
abbrev cFULL : Int32 := -1000004
abbrev cNONE : Int32 := -1000001
/-- place of a number that is known not to be below 0 -/
abbrev pl (x : Int32) : Nat := x.toNatClampNeg
def hosesF (F : Nat → Int32) (i : Nat) : Int32 := if F (i * 5 + 3) = 1 then 2 * F (i * 5 + 0) else F (i * 5 + 0)
def flowF (F : Nat → Int32) (i : Nat) (q : Int32) : Int32 := if F (i * 5 + 3) = 1 then (q + 1) / 2 else q
def lossF (F : Nat → Int32) (i : Nat) (q : Int32) : Int32 := F (i * 5 + 0) * kHard (pl (F (i * 5 + 1))) * flowF F i q * flowF F i q / 100 + F (i * 5 + 2)
/-- how a run fails that comes with p to the beginning of a span; 0 -/
def failF (F : Nat → Int32) (i : Nat) (p q : Int32) : Int32 := if F (i * 5 + 4) = 1 then 1 else if kStands (pl (F (i * 5 + 1))) < p then 4 else if p - lossF F i q < 0 then 3 else 0
def okSpan (m s r t : Int32) : Bool := inR m 1 30 && (inR s 0 3 && (inR r (-50) 50 && inR t 0 1))
def setSp (F : Nat → Int32) (n : Nat) (m s r t : Int32) : Nat → Int32 := upd (upd (upd (upd (upd F (n * 5 + 0) m) (n * 5 + 1) s) (n * 5 + 2) r) (n * 5 + 3) t) (n * 5 + 4) 0
def bitOf (i : Int32) : Int32 := 1 <<< (i &&& 31)
/-- how many of the bits 0 to 10 -/
def pcn (p : Nat) : Nat := (List.range 11).foldl (fun a k => a + p / 2 ^ k % 2) 0
def bcI (P : Int32) : Int32 := nI (pcn (pl P))
def sSpan (L : Ln) (m s r t : Int32) : Int32 × Ln := if okSpan m s r t = true then (if L.1 < 10 then (nI L.1, (L.1 + 1, L.2.1, setSp L.2.2.1 L.1 m s r t, L.2.2.2)) else (cFULL, L)) else (cBAD, L)
def sCut (L : Ln) : Int32 × Ln := if L.1 = 0 then (cNO, L) else (nI (L.1 - 1), (L.1 - 1, L.2.1 &&& (bitOf (nI L.1) ^^^ (-1)), L.2.2.1, L.2.2.2))
def okSet (k v : Int32) : Bool := inR k 0 5 && inR v (kLow (pl k)) (kHigh (pl k))
def sSet (L : Ln) (k v : Int32) : Int32 × Ln := if okSet k v = true then (L.2.2.2 (pl k), (L.1, L.2.1, L.2.2.1, upd L.2.2.2 (pl k) v)) else (cBAD, L)
def sPump (L : Ln) (i : Int32) : Int32 × Ln := if inR i 0 (nI L.1) = true then (bcI (L.2.1 ^^^ bitOf i), (L.1, L.2.1 ^^^ bitOf i, L.2.2.1, L.2.2.2)) else (cBAD, L)
def sBurst (L : Ln) (i : Int32) : Int32 × Ln := if inR i 0 (nI L.1 - 1) = true then (1 - L.2.2.1 (pl i * 5 + 4), (L.1, L.2.1, upd L.2.2.1 (pl i * 5 + 4) 1, L.2.2.2)) else (cBAD, L)
def noMend (L : Ln) (i : Int32) : Bool := decide (L.2.2.1 (pl i * 5 + 4) = 0) || decide (L.2.2.2 5 < hosesF L.2.2.1 (pl i))
def sMend (L : Ln) (i : Int32) : Int32 × Ln := if inR i 0 (nI L.1 - 1) = true then (if noMend L i = true then (cNO, L) else (L.2.2.2 5 - hosesF L.2.2.1 (pl i), (L.1, L.2.1, upd L.2.2.1 (pl i * 5 + 4) 0, upd L.2.2.2 5 (L.2.2.2 5 - hosesF L.2.2.1 (pl i))))) else (cBAD, L)
/-- a line as it ever is -/
def okFacts (F : Nat → Int32) : Prop := ∀ i, i < 10 → (0 ≤ F (i * 5 + 0) ∧ F (i * 5 + 0) ≤ 30) ∧ (0 ≤ F (i * 5 + 1) ∧ F (i * 5 + 1) ≤ 3) ∧ (F (i * 5 + 4) = 0 ∨ F (i * 5 + 4) = 1)
def okSets (G : Nat → Int32) : Prop := ∀ k, k < 6 → 0 ≤ G k ∧ G k ≤ 180
def okPumps (P : Int32) : Prop := ∃ p, p < 2048 ∧ P = nI p
def okLn (L : Ln) : Prop := L.1 ≤ 10 ∧ okPumps L.2.1 ∧ okFacts L.2.2.1 ∧ okSets L.2.2.2
theorem okFacts.sort {F : Nat → Int32} (h : okFacts F) {i : Nat} (hi : i < 10) : vp_in (F (i * 5 + 1)) 4 := by
  obtain ⟨-, ⟨h1, h2⟩, -⟩ := h i hi
  obtain ⟨j, hj, e⟩ := nI_of2 (M := 3) (n := 3) (by decide) (Int32.not_lt.mpr h1) h2
  rw [e]; exact vp_in_nI (by omega) (by decide)
theorem clamp_in {x : Int32} {n : Nat} (hn : n < 2 ^ 31) (h : vp_in x n) : ∃ j, j < n ∧ x = nI j ∧ pl x = j := by
  obtain ⟨j, hj, e⟩ := vp_in_of h hn
  exact ⟨j, hj, e, by rw [e]; exact nI_clamp (by omega)⟩
/-- a number that names a span: from 0 to n - 1 -/
theorem span_in {x : Int32} {n : Nat} (hn : n ≤ 10) (h : inR x 0 (nI n - 1) = true) : ∃ j, j < n ∧ x = nI j := by
  obtain ⟨h1, h2⟩ := inR_t.mp h
  cases n with
  | zero => exact absurd (Int32.le_trans h1 h2) (by decide)
  | succ n =>
    rw [show nI (n + 1) - 1 = nI n from nI_pred n] at h2
    obtain ⟨j, hj, e⟩ := nI_of2 (M := nI n) (n := n) (nI_toInt (by omega)) (Int32.not_lt.mpr h1) h2
    exact ⟨j, by omega, e⟩
theorem node_in {x : Int32} {n : Nat} (hn : n ≤ 10) (h : inR x 0 (nI n) = true) : ∃ j, j ≤ n ∧ x = nI j :=
  inR_nI (nI_toInt (by omega)) h
theorem bI_t {b : Bool} (h : b = true) : (1 : Int32) = bI b := by rw [h]; rfl
theorem bI_f {b : Bool} (h : b = false) : (0 : Int32) = bI b := by rw [h]; rfl
theorem pcn_lt : ∀ p, p < 2048 → pcn p ≤ 11 := by
  intro p _
  have h : ∀ k, p / 2 ^ k % 2 ≤ 1 := fun k => by omega
  have h0 := h 0; have h1 := h 1; have h2 := h 2; have h3 := h 3; have h4 := h 4; have h5 := h 5; have h6 := h 6; have h7 := h 7; have h8 := h 8; have h9 := h 9; have h10 := h 10
  simp only [pcn, List.range, List.range.loop, List.foldl]
  omega
theorem pl_nI {j : Nat} (h : j < 2147483648) : pl (nI j) = j := nI_clamp h
section LNS
variable {n : Nat} {P : Int32} {F G : Nat → Int32} {m s r t i k v : Int32}
theorem sSpan_f1 (h : inR m 1 30 = false) : sSpan (n, P, F, G) m s r t = (cBAD, (n, P, F, G)) := by simp [sSpan, okSpan, h]
theorem sSpan_f2 (h : inR s 0 3 = false) : sSpan (n, P, F, G) m s r t = (cBAD, (n, P, F, G)) := by simp [sSpan, okSpan, h]
theorem sSpan_f3 (h : inR r (-50) 50 = false) : sSpan (n, P, F, G) m s r t = (cBAD, (n, P, F, G)) := by simp [sSpan, okSpan, h]
theorem sSpan_f4 (h : inR t 0 1 = false) : sSpan (n, P, F, G) m s r t = (cBAD, (n, P, F, G)) := by simp [sSpan, okSpan, h]
theorem sSpan_full (h1 : inR m 1 30 = true) (h2 : inR s 0 3 = true) (h3 : inR r (-50) 50 = true) (h4 : inR t 0 1 = true) (hn : ¬ n < 10) : sSpan (n, P, F, G) m s r t = (cFULL, (n, P, F, G)) := by simp [sSpan, okSpan, h1, h2, h3, h4, hn]
theorem sSpan_ok (h1 : inR m 1 30 = true) (h2 : inR s 0 3 = true) (h3 : inR r (-50) 50 = true) (h4 : inR t 0 1 = true) (hn : n < 10) : sSpan (n, P, F, G) m s r t = (nI n, (n + 1, P, setSp F n m s r t, G)) := by simp [sSpan, okSpan, h1, h2, h3, h4, hn]
theorem sCut_0 (h : n = 0) : sCut (n, P, F, G) = (cNO, (n, P, F, G)) := by simp [sCut, h]
theorem sCut_s (h : ¬ n = 0) : sCut (n, P, F, G) = (nI (n - 1), (n - 1, P &&& (bitOf (nI n) ^^^ (-1)), F, G)) := by simp [sCut, h]
theorem sSet_f1 (h : inR k 0 5 = false) : sSet (n, P, F, G) k v = (cBAD, (n, P, F, G)) := by simp [sSet, okSet, h]
theorem sSet_f2 {j : Nat} (hj : j < 6) (h : inR v (kLow j) (kHigh j) = false) : sSet (n, P, F, G) (nI j) v = (cBAD, (n, P, F, G)) := by simp [sSet, okSet, pl_nI (show j < 2147483648 by omega), h]
theorem sSet_ok {j : Nat} (hj : j < 6) (h1 : inR (nI j) 0 5 = true) (h : inR v (kLow j) (kHigh j) = true) : sSet (n, P, F, G) (nI j) v = (G j, (n, P, F, upd G j v)) := by simp [sSet, okSet, pl_nI (show j < 2147483648 by omega), h, h1]
theorem sPump_f (h : inR i 0 (nI n) = false) : sPump (n, P, F, G) i = (cBAD, (n, P, F, G)) := by simp [sPump, h]
theorem sPump_ok (h : inR i 0 (nI n) = true) : sPump (n, P, F, G) i = (bcI (P ^^^ bitOf i), (n, P ^^^ bitOf i, F, G)) := by simp [sPump, h]
theorem sBurst_f (h : inR i 0 (nI n - 1) = false) : sBurst (n, P, F, G) i = (cBAD, (n, P, F, G)) := by simp [sBurst, h]
theorem sBurst_ok {j : Nat} (hj : j < 10) (h : inR (nI j) 0 (nI n - 1) = true) : sBurst (n, P, F, G) (nI j) = (1 - F (j * 5 + 4), (n, P, upd F (j * 5 + 4) 1, G)) := by simp [sBurst, h, pl_nI (show j < 2147483648 by omega)]
theorem sMend_f (h : inR i 0 (nI n - 1) = false) : sMend (n, P, F, G) i = (cBAD, (n, P, F, G)) := by simp [sMend, h]
theorem sMend_n1 {j : Nat} (hj : j < 10) (h : inR (nI j) 0 (nI n - 1) = true) (h1 : F (j * 5 + 4) = 0) : sMend (n, P, F, G) (nI j) = (cNO, (n, P, F, G)) := by simp [sMend, noMend, h, pl_nI (show j < 2147483648 by omega), h1]
theorem sMend_n2 {j : Nat} (hj : j < 10) (h : inR (nI j) 0 (nI n - 1) = true) (h1 : G 5 < hosesF F j) : sMend (n, P, F, G) (nI j) = (cNO, (n, P, F, G)) := by simp [sMend, noMend, h, pl_nI (show j < 2147483648 by omega), h1]
theorem sMend_ok {j : Nat} (hj : j < 10) (h : inR (nI j) 0 (nI n - 1) = true) (h1 : ¬ F (j * 5 + 4) = 0) (h2 : ¬ G 5 < hosesF F j) : sMend (n, P, F, G) (nI j) = (G 5 - hosesF F j, (n, P, upd F (j * 5 + 4) 0, upd G 5 (G 5 - hosesF F j))) := by simp only [sMend, noMend, h, pl_nI (show j < 2147483648 by omega), h1, h2, decide_false, Bool.or_self, if_true, Bool.false_eq_true, if_false]
end LNS
theorem set_in {k : Int32} (h : inR k 0 5 = true) : ∃ j, j < 6 ∧ k = nI j := by
  obtain ⟨j, hj, e⟩ := inR_nI (n := 5) (by decide) h
  exact ⟨j, by omega, e⟩
/-- the lengths of all -/
def sumH (F : Nat → Int32) : Nat → Int32
  | 0 => 0
  | k + 1 => sumH F k + hosesF F k
def sumB (F : Nat → Int32) : Nat → Int32
  | 0 => 0
  | k + 1 => sumB F k + F (k * 5 + 4)
/-- bits of the pumps -/
theorem bit_sh : ∀ i, i < 11 → bitOf (nI i) = nI (2 ^ i) := by decide +kernel
theorem bit_0 {p i : Nat} (hi : i ≤ 10) : (nI p &&& (1 <<< (nI i &&& 31))) = 0 ↔ p.testBit i = false := by
  rw [show (1 : Int32) <<< (nI i &&& 31) = nI (2 ^ i) from bit_sh i (by omega)]
  exact fa_bit (by omega)
theorem upd_hosesF {F : Nat → Int32} {j i : Nat} {v : Int32} : hosesF (upd F (j * 5 + 4) v) i = hosesF F i := by
  unfold hosesF
  rw [pk_un (show i * 5 + 3 ≠ j * 5 + 4 by omega), pk_un (show i * 5 + 0 ≠ j * 5 + 4 by omega)]
theorem fa_xor (a b : Nat) : nI a ^^^ nI b = nI (a ^^^ b) := by
  apply Int32.toBitVec_inj.1
  show BitVec.ofNat 32 a ^^^ BitVec.ofNat 32 b = BitVec.ofNat 32 (a ^^^ b)
  apply BitVec.eq_of_getLsbD_eq
  intro i hi
  simp [hi]
theorem okPumps.xor {P : Int32} (h : okPumps P) {i : Nat} (hi : i ≤ 10) : okPumps (P ^^^ bitOf (nI i)) := by
  obtain ⟨p, hp, rfl⟩ := h
  rw [bit_sh i (by omega), show nI p ^^^ nI (2 ^ i) = nI (p ^^^ 2 ^ i) from fa_xor p (2 ^ i)]
  exact ⟨_, Nat.xor_lt_two_pow (n := 11) hp (Nat.lt_of_le_of_lt (Nat.pow_le_pow_right (by decide) hi) (by decide)), rfl⟩
theorem okPumps.and {P : Int32} (h : okPumps P) (y : Int32) : okPumps (P &&& y) := by
  obtain ⟨p, hp, rfl⟩ := h
  obtain ⟨q, -, rfl⟩ : ∃ q, q < 2 ^ 32 ∧ y = nI q := ⟨y.toBitVec.toNat, y.toBitVec.isLt, by
    apply Int32.toBitVec_inj.mp
    show y.toBitVec = BitVec.ofNat 32 y.toBitVec.toNat
    simp⟩
  rw [fa_and]
  exact ⟨p &&& q, Nat.lt_of_le_of_lt Nat.and_le_left hp, rfl⟩
theorem e_cell {cA : ClassId} {n : Nat} {f g : Nat → Int32} (h : ∀ j, j < n → f j = g j) : vp_cell cA (n, .inl f) = vp_cell cA (n, .inl g) := by
  rw [vp_cell_i, vp_cell_i]
  unfold arrV
  congr 1
  congr 1
  funext j
  exact congrArg Value.int (h j.1 j.2)
/-- what a row holds, told otherwise where nobody reads -/
theorem e_ext {D : va_G} {cl : List vw_C} {ws : va_W} {H : Heap} {A : Nat → Prop} (q : Nat) {a : Nat} {cA : ClassId} {n : Nat} {f : Nat → Int32} (g : Nat → Int32) (hP : va_P D cl ws H) (hD : va_D A ws) (hq : ws[q]? = some (a, .inl (cA, n, .inl f))) (h : ∀ j, j < n → f j = g j) : va_P D cl (ws.set q (a, .inl (cA, n, .inl g))) H ∧ va_D A (ws.set q (a, .inl (cA, n, .inl g))) := by
  refine ⟨hP.set hD hq ?_ (fun _ _ => rfl), hD.set hq⟩
  have h1 : H[a]? = some (vp_cell cA (n, .inl f)) := hP q _ hq
  show H[a]? = some (vp_cell cA (n, .inl g))
  rw [h1, e_cell h]
theorem cpy_all {f g : Nat → Int32} {n j : Nat} (h : j < n) : va_cpy f g 0 0 n j = f j := by
  unfold va_cpy
  rw [if_pos ⟨Nat.zero_le _, by omega⟩]
  congr 1
  omega
def ush (x y : Int32) : Int32 := (Int32.toUInt32 x >>> (Int32.toUInt32 y &&& Int32.toUInt32 31)).toInt32
def bc1 (x : Int32) : Int32 := x - (ush x 1 &&& 1431655765)
def bc2 (x : Int32) : Int32 := (x &&& 858993459) + (ush x 2 &&& 858993459)
def bc3 (x : Int32) : Int32 := (x + ush x 4) &&& 252645135
def bc4 (x : Int32) : Int32 := x + ush x 8
def bc5 (x : Int32) : Int32 := x + ush x 16
def bcX (x : Int32) : Int32 := bc5 (bc4 (bc3 (bc2 (bc1 x)))) &&& 63
theorem bc_all : (List.range 2048).all (fun p => decide (bcX (nI p) = nI (pcn p))) = true := by decide +kernel
theorem bc_eq {x : Int32} (h : okPumps x) : bcX x = bcI x := by
  obtain ⟨p, hp, rfl⟩ := h
  have h1 := of_decide_eq_true (List.all_eq_true.mp bc_all p (List.mem_range.mpr hp))
  rw [h1, bcI, pl_nI (by omega)]
theorem b_nf {b : Bool} (h : ¬ b = false) : b = true := by cases b <;> simp_all
end
section
set_option maxHeartbeats 4000000 in
set_option maxRecDepth 100000 in
theorem c_X4_within (l : Launch) (D : va_G) (cI cB cO : ClassId) (sz : Nat) (a b c : Int32)  : CI l yX4_within wsX4_within ({ frames := 0, cells := 0, slots := 0, locals := 0 } : Room) D (tyL cI cB cO) [.int a, .int b, .int c] [] sz (fun (r : Int32) (_ : Unit) => r = bI (inR a b c)) (fun (u : Unit) => []) 0 0 := by
  refine ct_of (cc := cX4_within) (maxL := 3) (ret := some .boolean) (own := RX4) (Qc := QI D (fun (r : Int32) (_ : Unit) => r = bI (inR a b c)) (fun (u : Unit) => [])) (by decide) rfl rfl (Nat.le_of_ble_eq_true rfl) ?_
  intro pM eM sM mM below meth cM AM ls H locs hx hb hr hts hown hlocks hml hin hK hP hD hS hA hSt hl
  have hl : lv_has ls 3 [(0, .int a), (1, .int b), (2, .int c)] := hl
  refine lv_iload_n hx hb dX4_within_0 rfl (lv_at hl 0 rfl) ?_
  refine lv_iload_n hx hb dX4_within_1 rfl (lv_at hl 1 rfl) ?_
  refine lv_icmp_lt (tgt := 14) hx hb dX4_within_2 (by decide) (fun c_1 => ?_) (fun c_1 => ?_)
  · refine lv_iconst (v := 0) hx hb dX4_within_14 (by decide) ?_
    refine e_z (u := ()) hx hb hr (by first | rfl | exact bI_nar _) hlocks hP hD hS dX4_within_15 ?_ ?_
    · rfl
    · first | exact bI_t (inR_t.mpr ⟨Int32.not_lt.mp (by assumption), Int32.not_lt.mp (by assumption)⟩) | exact bI_f (inR_f.mpr (fun h => absurd h.1 (Int32.not_le.mpr (by assumption)))) | exact bI_f (inR_f.mpr (fun h => absurd h.2 (Int32.not_le.mpr (by assumption))))
  · refine lv_iload_n hx hb dX4_within_5 rfl (lv_at hl 0 rfl) ?_
    refine lv_iload_n hx hb dX4_within_6 rfl (lv_at hl 2 rfl) ?_
    refine lv_icmp_gt (tgt := 14) hx hb dX4_within_7 (by decide) (fun c_2 => ?_) (fun c_2 => ?_)
    · refine lv_iconst (v := 0) hx hb dX4_within_14 (by decide) ?_
      refine e_z (u := ()) hx hb hr (by first | rfl | exact bI_nar _) hlocks hP hD hS dX4_within_15 ?_ ?_
      · rfl
      · first | exact bI_t (inR_t.mpr ⟨Int32.not_lt.mp (by assumption), Int32.not_lt.mp (by assumption)⟩) | exact bI_f (inR_f.mpr (fun h => absurd h.1 (Int32.not_le.mpr (by assumption)))) | exact bI_f (inR_f.mpr (fun h => absurd h.2 (Int32.not_le.mpr (by assumption))))
    · refine lv_iconst (v := 1) hx hb dX4_within_10 (by decide) ?_
      refine lv_goto (tgt := 15) hx hb dX4_within_11 (by decide) ?_
      refine e_z (u := ()) hx hb hr (by first | rfl | exact bI_nar _) hlocks hP hD hS dX4_within_15 ?_ ?_
      · rfl
      · first | exact bI_t (inR_t.mpr ⟨Int32.not_lt.mp (by assumption), Int32.not_lt.mp (by assumption)⟩) | exact bI_f (inR_f.mpr (fun h => absurd h.1 (Int32.not_le.mpr (by assumption)))) | exact bI_f (inR_f.mpr (fun h => absurd h.2 (Int32.not_le.mpr (by assumption))))
theorem in_X0_fact_0 : ∀ w ∈ wsX00, w ∈ wsX0_fact := fun _ h => List.mem_cons_of_mem _ (List.mem_append_right _ h)
set_option maxHeartbeats 4000000 in
set_option maxRecDepth 100000 in
theorem c_X0_fact (l : Launch) (D : va_G) (cI cB cO : ClassId) (sz : Nat) (h0 h1 h2 n : Nat) (P : Int32) (F : Nat → Int32) (i w : Nat) (hi : i * 5 + w < 50) : CI l yX0_fact wsX0_fact ({ frames := 0, cells := 0, slots := 0, locals := 0 } : Room) D (tyL cI cB cO) [.ref h0, .int (nI i), .int (nI w)] [(h0, .inr (0, [.int (nI n), .int P, .ref h1, .ref h2])), (h1, .inl (cI, 50, .inl F))] sz (fun (r : Int32) (_ : Unit) => r = F (i * 5 + w)) (fun (u : Unit) => [(h0, .inr (0, [.int (nI n), .int P, .ref h1, .ref h2])), (h1, .inl (cI, 50, .inl F))]) 0 0 := by
  refine ct_of (cc := cX0_fact) (maxL := 3) (ret := some .int) (own := RX0) (Qc := QI D (fun (r : Int32) (_ : Unit) => r = F (i * 5 + w)) (fun (u : Unit) => [(h0, .inr (0, [.int (nI n), .int P, .ref h1, .ref h2])), (h1, .inl (cI, 50, .inl F))])) (by decide) rfl rfl (Nat.le_of_ble_eq_true rfl) ?_
  intro pM eM sM mM below meth cM AM ls H locs hx hb hr hts hown hlocks hml hin hK hP hD hS hA hSt hl
  have hl : lv_has ls 3 [(0, .ref h0), (1, .int (nI i)), (2, .int (nI w))] := hl
  refine lv_aload_n hx hb dX0_fact_0 rfl (lv_at hl 0 rfl) ?_
  refine va_get (D := D) (ci := 0) (v := .ref h1) (C := RX0) (T := TX0) (N := 4) hx hb hts in_X0_fact_0 hown hK hP 0 rfl rfl 2 (by decide) (hts (.fieldLink RX0 18 "HoseSpans$Line" "facts" "[I") (List.mem_of_getElem? (i := 1) (by decide +kernel))) (fun _ h9 => h9) rfl dX0_fact_1 ?_
  refine lv_iload_n hx hb dX0_fact_4 rfl (lv_at hl 1 rfl) ?_
  refine lv_iconst (v := 5) hx hb dX0_fact_5 (by decide) ?_
  refine lv_imul hx hb dX0_fact_6 ?_
  refine e_n (y := nI (i * 5)) (pk_mul i 5) ?_
  refine lv_iload_n hx hb dX0_fact_7 rfl (lv_at hl 2 rfl) ?_
  refine lv_iadd hx hb dX0_fact_8 ?_
  refine e_n (y := nI (i * 5 + w)) (nI_add (i * 5) w) ?_
  refine va_iald hx hb hK hP 1 0 rfl rfl (vp_in_nI (by omega) (by decide)) dX0_fact_9 ?_
  refine e_n (y := F (i * 5 + w)) (congrArg F (nI_clamp (by omega))) ?_
  refine e_i (u := ()) hx hb hr hlocks hP hD hS dX0_fact_10 ?_ ?_
  · rfl
  · rfl
theorem in_X0_setFact_0 : ∀ w ∈ wsX00, w ∈ wsX0_setFact := fun _ h => List.mem_cons_of_mem _ (List.mem_append_right _ h)
set_option maxHeartbeats 4000000 in
set_option maxRecDepth 100000 in
theorem c_X0_setFact (l : Launch) (D : va_G) (cI cB cO : ClassId) (sz : Nat) (h0 h1 h2 n : Nat) (P : Int32) (F : Nat → Int32) (i w : Nat) (v : Int32) (hi : i * 5 + w < 50) : CV l yX0_setFact wsX0_setFact ({ frames := 0, cells := 0, slots := 0, locals := 0 } : Room) D (tyL cI cB cO) [.ref h0, .int (nI i), .int (nI w), .int v] [(h0, .inr (0, [.int (nI n), .int P, .ref h1, .ref h2])), (h1, .inl (cI, 50, .inl F))] sz (fun (_ : Unit) => True) (fun (u : Unit) => [(h0, .inr (0, [.int (nI n), .int P, .ref h1, .ref h2])), (h1, .inl (cI, 50, .inl (upd F (i * 5 + w) v)))]) 0 0 := by
  refine ct_of (cc := cX0_setFact) (maxL := 4) (ret := none) (own := RX0) (Qc := QV D (fun (_ : Unit) => True) (fun (u : Unit) => [(h0, .inr (0, [.int (nI n), .int P, .ref h1, .ref h2])), (h1, .inl (cI, 50, .inl (upd F (i * 5 + w) v)))])) (by decide) rfl rfl (Nat.le_of_ble_eq_true rfl) ?_
  intro pM eM sM mM below meth cM AM ls H locs hx hb hr hts hown hlocks hml hin hK hP hD hS hA hSt hl
  have hl : lv_has ls 4 [(0, .ref h0), (1, .int (nI i)), (2, .int (nI w)), (3, .int v)] := hl
  refine lv_aload_n hx hb dX0_setFact_0 rfl (lv_at hl 0 rfl) ?_
  refine va_get (D := D) (ci := 0) (v := .ref h1) (C := RX0) (T := TX0) (N := 4) hx hb hts in_X0_setFact_0 hown hK hP 0 rfl rfl 2 (by decide) (hts (.fieldLink RX0 18 "HoseSpans$Line" "facts" "[I") (List.mem_of_getElem? (i := 1) (by decide +kernel))) (fun _ h9 => h9) rfl dX0_setFact_1 ?_
  refine lv_iload_n hx hb dX0_setFact_4 rfl (lv_at hl 1 rfl) ?_
  refine lv_iconst (v := 5) hx hb dX0_setFact_5 (by decide) ?_
  refine lv_imul hx hb dX0_setFact_6 ?_
  refine e_n (y := nI (i * 5)) (pk_mul i 5) ?_
  refine lv_iload_n hx hb dX0_setFact_7 rfl (lv_at hl 2 rfl) ?_
  refine lv_iadd hx hb dX0_setFact_8 ?_
  refine e_n (y := nI (i * 5 + w)) (nI_add (i * 5) w) ?_
  refine lv_iload_n hx hb dX0_setFact_9 rfl (lv_at hl 3 rfl) ?_
  refine va_iast hx hb hK hP hD hS 1 0 rfl rfl (vp_in_nI (by omega) (by decide)) dX0_setFact_10 (fun H locs hP hD hS => ?_)
  rw [show Int32.toNatClampNeg (nI (i * 5 + w)) = i * 5 + w from (nI_clamp (by omega))] at hP hD
  have hP : va_P D vwCl [(h0, .inr (0, [.int (nI n), .int P, .ref h1, .ref h2])), (h1, .inl (cI, 50, .inl (upd F (i * 5 + w) v)))] H := hP
  have hD : va_D AM [(h0, .inr (0, [.int (nI n), .int P, .ref h1, .ref h2])), (h1, .inl (cI, 50, .inl (upd F (i * 5 + w) v)))] := hD
  refine e_v (u := ()) hx hb hr hlocks hP hD hS dX0_setFact_11 ?_ ?_
  · rfl
  · trivial
theorem in_X0_hasSpan_0 : ∀ w ∈ wsX00, w ∈ wsX0_hasSpan := fun _ h => List.mem_cons_of_mem _ (List.mem_append_right _ h)
set_option maxHeartbeats 4000000 in
set_option maxRecDepth 100000 in
theorem c_X0_hasSpan (l : Launch) (D : va_G) (cI cB cO : ClassId) (sz : Nat) (h0 h1 h2 n : Nat) (P : Int32) (i : Int32)  : CI l yX0_hasSpan wsX0_hasSpan ({ frames := 1, cells := 0, slots := 0, locals := 22 } : Room) D (tyL cI cB cO) [.ref h0, .int i] [(h0, .inr (0, [.int (nI n), .int P, .ref h1, .ref h2]))] sz (fun (r : Int32) (_ : Unit) => r = bI (inR i 0 (nI n - 1))) (fun (u : Unit) => [(h0, .inr (0, [.int (nI n), .int P, .ref h1, .ref h2]))]) 0 0 := by
  refine ct_of (cc := cX0_hasSpan) (maxL := 2) (ret := some .boolean) (own := RX0) (Qc := QI D (fun (r : Int32) (_ : Unit) => r = bI (inR i 0 (nI n - 1))) (fun (u : Unit) => [(h0, .inr (0, [.int (nI n), .int P, .ref h1, .ref h2]))])) (by decide) rfl rfl (Nat.le_of_ble_eq_true rfl) ?_
  intro pM eM sM mM below meth cM AM ls H locs hx hb hr hts hown hlocks hml hin hK hP hD hS hA hSt hl
  have hl : lv_has ls 2 [(0, .ref h0), (1, .int i)] := hl
  refine lv_iload_n hx hb dX0_hasSpan_0 rfl (lv_at hl 1 rfl) ?_
  refine lv_iconst (v := 0) hx hb dX0_hasSpan_1 (by decide) ?_
  refine lv_aload_n hx hb dX0_hasSpan_2 rfl (lv_at hl 0 rfl) ?_
  refine va_get (D := D) (ci := 0) (v := .int (nI n)) (C := RX0) (T := TX0) (N := 4) hx hb hts in_X0_hasSpan_0 hown hK hP 0 rfl rfl 0 (by decide) (hts (.fieldLink RX0 9 "HoseSpans$Line" "spans" "I") (List.mem_of_getElem? (i := 1) (by decide +kernel))) (fun _ h9 => h9) rfl dX0_hasSpan_3 ?_
  refine lv_iconst (v := 1) hx hb dX0_hasSpan_6 (by decide) ?_
  refine lv_isub hx hb dX0_hasSpan_7 ?_
  refine k_i (va_runSN (As := [.int i, .int 0, .int ((nI n) - 1)]) (rest := []) ⟨hx, hb, hml, hown, hts⟩ (c_X4_within l D cI cB cO H.size i 0 ((nI n) - 1) ) ⟨va_cnB 3 hts gX0_hasSpan_X4_within_n34 rfl rfl rfl hSt.1.1 (hts (.initialized RX4) (List.mem_of_getElem? (i := 3) (by decide +kernel))) (by decide +kernel) ⟨Nat.le_of_ble_eq_true rfl, Nat.le_of_ble_eq_true rfl⟩, (hts (.static yX4_within) (List.mem_of_getElem? (i := 2) (by decide +kernel))), trivial⟩ (preS_of hK hP hD hS hA hSt [] (by decide) rfl) rfl rfl hl.1 rfl (lv_room (Nat.le_of_ble_eq_true rfl)) dX0_hasSpan_8 ⟨Nat.le_of_ble_eq_true rfl, Nat.le_of_ble_eq_true rfl⟩) hP hD hS hA [] [0] [0] [(h0, .inr (0, [.int (nI n), .int P, .ref h1, .ref h2]))] (fun (u_1 : Unit) => [(h0, .inr (0, [.int (nI n), .int P, .ref h1, .ref h2]))]) rfl rfl (by decide) (by decide) (by decide) (fun _ => rfl) (fun r_1 u_1 H locs q_1 hP hD hS => ?_)
  obtain rfl : r_1 = bI (inR i 0 ((nI n) - 1)) := q_1
  refine e_z (u := ()) hx hb hr (by first | rfl | exact bI_nar _) hlocks hP hD hS dX0_hasSpan_11 ?_ ?_
  · rfl
  · rfl
theorem in_X0_hasNode_0 : ∀ w ∈ wsX00, w ∈ wsX0_hasNode := fun _ h => List.mem_cons_of_mem _ (List.mem_append_right _ h)
set_option maxHeartbeats 4000000 in
set_option maxRecDepth 100000 in
theorem c_X0_hasNode (l : Launch) (D : va_G) (cI cB cO : ClassId) (sz : Nat) (h0 h1 h2 n : Nat) (P : Int32) (i : Int32)  : CI l yX0_hasNode wsX0_hasNode ({ frames := 1, cells := 0, slots := 0, locals := 22 } : Room) D (tyL cI cB cO) [.ref h0, .int i] [(h0, .inr (0, [.int (nI n), .int P, .ref h1, .ref h2]))] sz (fun (r : Int32) (_ : Unit) => r = bI (inR i 0 (nI n))) (fun (u : Unit) => [(h0, .inr (0, [.int (nI n), .int P, .ref h1, .ref h2]))]) 0 0 := by
  refine ct_of (cc := cX0_hasNode) (maxL := 2) (ret := some .boolean) (own := RX0) (Qc := QI D (fun (r : Int32) (_ : Unit) => r = bI (inR i 0 (nI n))) (fun (u : Unit) => [(h0, .inr (0, [.int (nI n), .int P, .ref h1, .ref h2]))])) (by decide) rfl rfl (Nat.le_of_ble_eq_true rfl) ?_
  intro pM eM sM mM below meth cM AM ls H locs hx hb hr hts hown hlocks hml hin hK hP hD hS hA hSt hl
  have hl : lv_has ls 2 [(0, .ref h0), (1, .int i)] := hl
  refine lv_iload_n hx hb dX0_hasNode_0 rfl (lv_at hl 1 rfl) ?_
  refine lv_iconst (v := 0) hx hb dX0_hasNode_1 (by decide) ?_
  refine lv_aload_n hx hb dX0_hasNode_2 rfl (lv_at hl 0 rfl) ?_
  refine va_get (D := D) (ci := 0) (v := .int (nI n)) (C := RX0) (T := TX0) (N := 4) hx hb hts in_X0_hasNode_0 hown hK hP 0 rfl rfl 0 (by decide) (hts (.fieldLink RX0 9 "HoseSpans$Line" "spans" "I") (List.mem_of_getElem? (i := 1) (by decide +kernel))) (fun _ h9 => h9) rfl dX0_hasNode_3 ?_
  refine k_i (va_runSN (As := [.int i, .int 0, .int (nI n)]) (rest := []) ⟨hx, hb, hml, hown, hts⟩ (c_X4_within l D cI cB cO H.size i 0 (nI n) ) ⟨va_cnB 3 hts gX0_hasNode_X4_within_n34 rfl rfl rfl hSt.1.1 (hts (.initialized RX4) (List.mem_of_getElem? (i := 3) (by decide +kernel))) (by decide +kernel) ⟨Nat.le_of_ble_eq_true rfl, Nat.le_of_ble_eq_true rfl⟩, (hts (.static yX4_within) (List.mem_of_getElem? (i := 2) (by decide +kernel))), trivial⟩ (preS_of hK hP hD hS hA hSt [] (by decide) rfl) rfl rfl hl.1 rfl (lv_room (Nat.le_of_ble_eq_true rfl)) dX0_hasNode_6 ⟨Nat.le_of_ble_eq_true rfl, Nat.le_of_ble_eq_true rfl⟩) hP hD hS hA [] [0] [0] [(h0, .inr (0, [.int (nI n), .int P, .ref h1, .ref h2]))] (fun (u_1 : Unit) => [(h0, .inr (0, [.int (nI n), .int P, .ref h1, .ref h2]))]) rfl rfl (by decide) (by decide) (by decide) (fun _ => rfl) (fun r_1 u_1 H locs q_1 hP hD hS => ?_)
  obtain rfl : r_1 = bI (inR i 0 (nI n)) := q_1
  refine e_z (u := ()) hx hb hr (by first | rfl | exact bI_nar _) hlocks hP hD hS dX0_hasNode_9 ?_ ?_
  · rfl
  · rfl
set_option maxHeartbeats 4000000 in
set_option maxRecDepth 100000 in
theorem c_X0_hosesOf (l : Launch) (D : va_G) (cI cB cO : ClassId) (sz : Nat) (h0 h1 h2 n : Nat) (P : Int32) (F : Nat → Int32) (i : Nat) (hi : i < 10) : CI l yX0_hosesOf wsX0_hosesOf ({ frames := 1, cells := 0, slots := 0, locals := 22 } : Room) D (tyL cI cB cO) [.ref h0, .int (nI i)] [(h0, .inr (0, [.int (nI n), .int P, .ref h1, .ref h2])), (h1, .inl (cI, 50, .inl F))] sz (fun (r : Int32) (_ : Unit) => r = hosesF F i) (fun (u : Unit) => [(h0, .inr (0, [.int (nI n), .int P, .ref h1, .ref h2])), (h1, .inl (cI, 50, .inl F))]) 0 0 := by
  refine ct_of (cc := cX0_hosesOf) (maxL := 2) (ret := some .int) (own := RX0) (Qc := QI D (fun (r : Int32) (_ : Unit) => r = hosesF F i) (fun (u : Unit) => [(h0, .inr (0, [.int (nI n), .int P, .ref h1, .ref h2])), (h1, .inl (cI, 50, .inl F))])) (by decide) rfl rfl (Nat.le_of_ble_eq_true rfl) ?_
  intro pM eM sM mM below meth cM AM ls H locs hx hb hr hts hown hlocks hml hin hK hP hD hS hA hSt hl
  have hl : lv_has ls 2 [(0, .ref h0), (1, .int (nI i))] := hl
  refine lv_aload_n hx hb dX0_hosesOf_0 rfl (lv_at hl 0 rfl) ?_
  refine lv_iload_n hx hb dX0_hosesOf_1 rfl (lv_at hl 1 rfl) ?_
  refine lv_iconst (v := 3) hx hb dX0_hosesOf_2 (by decide) ?_
  refine k_i (va_runV (As := [.int (nI i), .int (nI 3)]) (rest := []) ⟨hx, hb, hml, hown, hts⟩ (c_X0_fact l D cI cB cO H.size h0 h1 h2 n P F i 3 (by first | assumption | omega)) (cwV 2 hts gX0_hosesOf_X0_fact rfl rfl rfl (by decide +kernel) ⟨Nat.le_of_ble_eq_true rfl, Nat.le_of_ble_eq_true rfl⟩) (preV_of hK hP hD hS hA hSt [0, 1] (by decide) rfl 0 (ci := 0) rfl rfl) rfl rfl hl.1 rfl (lv_room (Nat.le_of_ble_eq_true rfl)) dX0_hosesOf_3 ⟨Nat.le_of_ble_eq_true rfl, Nat.le_of_ble_eq_true rfl⟩) hP hD hS hA [0, 1] [] [0, 1] [] (fun (u_1 : Unit) => [(h0, .inr (0, [.int (nI n), .int P, .ref h1, .ref h2])), (h1, .inl (cI, 50, .inl F))]) rfl rfl (by decide) (by decide) (by decide) (fun _ => rfl) (fun r_1 u_1 H locs q_1 hP hD hS => ?_)
  obtain rfl : r_1 = F (i * 5 + 3) := q_1
  refine lv_iconst (v := 1) hx hb dX0_hosesOf_6 (by decide) ?_
  refine lv_icmp_ne (tgt := 21) hx hb dX0_hosesOf_7 (by decide) (fun c_2 => ?_) (fun c_2 => ?_)
  · refine lv_aload_n hx hb dX0_hosesOf_21 rfl (lv_at hl 0 rfl) ?_
    refine lv_iload_n hx hb dX0_hosesOf_22 rfl (lv_at hl 1 rfl) ?_
    refine lv_iconst (v := 0) hx hb dX0_hosesOf_23 (by decide) ?_
    refine k_i (va_runV (As := [.int (nI i), .int (nI 0)]) (rest := []) ⟨hx, hb, hml, hown, hts⟩ (c_X0_fact l D cI cB cO H.size h0 h1 h2 n P F i 0 (by first | assumption | omega)) (cwV 2 hts gX0_hosesOf_X0_fact rfl rfl rfl (by decide +kernel) ⟨Nat.le_of_ble_eq_true rfl, Nat.le_of_ble_eq_true rfl⟩) (preV_of hK hP hD hS hA hSt [0, 1] (by decide) rfl 0 (ci := 0) rfl rfl) rfl rfl hl.1 rfl (lv_room (Nat.le_of_ble_eq_true rfl)) dX0_hosesOf_24 ⟨Nat.le_of_ble_eq_true rfl, Nat.le_of_ble_eq_true rfl⟩) hP hD hS hA [0, 1] [] [0, 1] [] (fun (u_3 : Unit) => [(h0, .inr (0, [.int (nI n), .int P, .ref h1, .ref h2])), (h1, .inl (cI, 50, .inl F))]) rfl rfl (by decide) (by decide) (by decide) (fun _ => rfl) (fun r_3 u_3 H locs q_3 hP hD hS => ?_)
    obtain rfl : r_3 = F (i * 5 + 0) := q_3
    refine e_i (u := ()) hx hb hr hlocks hP hD hS dX0_hosesOf_27 ?_ ?_
    · rfl
    · unfold hosesF; first | (rw [if_pos (by assumption)]) | (rw [if_neg (by assumption)])
  · refine lv_iconst (v := 2) hx hb dX0_hosesOf_10 (by decide) ?_
    refine lv_aload_n hx hb dX0_hosesOf_11 rfl (lv_at hl 0 rfl) ?_
    refine lv_iload_n hx hb dX0_hosesOf_12 rfl (lv_at hl 1 rfl) ?_
    refine lv_iconst (v := 0) hx hb dX0_hosesOf_13 (by decide) ?_
    refine k_i (va_runV (As := [.int (nI i), .int (nI 0)]) (rest := [.int 2]) ⟨hx, hb, hml, hown, hts⟩ (c_X0_fact l D cI cB cO H.size h0 h1 h2 n P F i 0 (by first | assumption | omega)) (cwV 2 hts gX0_hosesOf_X0_fact rfl rfl rfl (by decide +kernel) ⟨Nat.le_of_ble_eq_true rfl, Nat.le_of_ble_eq_true rfl⟩) (preV_of hK hP hD hS hA hSt [0, 1] (by decide) rfl 0 (ci := 0) rfl rfl) rfl rfl hl.1 rfl (lv_room (Nat.le_of_ble_eq_true rfl)) dX0_hosesOf_14 ⟨Nat.le_of_ble_eq_true rfl, Nat.le_of_ble_eq_true rfl⟩) hP hD hS hA [0, 1] [] [0, 1] [] (fun (u_4 : Unit) => [(h0, .inr (0, [.int (nI n), .int P, .ref h1, .ref h2])), (h1, .inl (cI, 50, .inl F))]) rfl rfl (by decide) (by decide) (by decide) (fun _ => rfl) (fun r_4 u_4 H locs q_4 hP hD hS => ?_)
    obtain rfl : r_4 = F (i * 5 + 0) := q_4
    refine lv_imul hx hb dX0_hosesOf_17 ?_
    refine lv_goto (tgt := 27) hx hb dX0_hosesOf_18 (by decide) ?_
    refine e_i (u := ()) hx hb hr hlocks hP hD hS dX0_hosesOf_27 ?_ ?_
    · rfl
    · unfold hosesF; first | (rw [if_pos (by assumption)]) | (rw [if_neg (by assumption)])
set_option maxHeartbeats 4000000 in
set_option maxRecDepth 100000 in
theorem c_X0_lossBy (l : Launch) (D : va_G) (cI cB cO : ClassId) (sz : Nat) (h0 h1 h2 n : Nat) (P : Int32) (F : Nat → Int32) (i : Nat) (q : Int32) (hi : i < 10) (hs : vp_in (F (i * 5 + 1)) 4) : CI l yX0_lossBy wsX0_lossBy ({ frames := 1, cells := 0, slots := 0, locals := 22 } : Room) D (tyL cI cB cO) [.ref h0, .int (nI i), .int q] [(h0, .inr (0, [.int (nI n), .int P, .ref h1, .ref h2])), (h1, .inl (cI, 50, .inl F))] sz (fun (r : Int32) (_ : Unit) => r = lossF F i q) (fun (u : Unit) => [(h0, .inr (0, [.int (nI n), .int P, .ref h1, .ref h2])), (h1, .inl (cI, 50, .inl F))]) 0 0 := by
  refine ct_of (cc := cX0_lossBy) (maxL := 4) (ret := some .int) (own := RX0) (Qc := QI D (fun (r : Int32) (_ : Unit) => r = lossF F i q) (fun (u : Unit) => [(h0, .inr (0, [.int (nI n), .int P, .ref h1, .ref h2])), (h1, .inl (cI, 50, .inl F))])) (by decide) rfl rfl (Nat.le_of_ble_eq_true rfl) ?_
  intro pM eM sM mM below meth cM AM ls H locs hx hb hr hts hown hlocks hml hin hK hP hD hS hA hSt hl
  have hl : lv_has ls 4 [(0, .ref h0), (1, .int (nI i)), (2, .int q)] := hl
  refine lv_aload_n hx hb dX0_lossBy_0 rfl (lv_at hl 0 rfl) ?_
  refine lv_iload_n hx hb dX0_lossBy_1 rfl (lv_at hl 1 rfl) ?_
  refine lv_iconst (v := 3) hx hb dX0_lossBy_2 (by decide) ?_
  refine k_i (va_runV (As := [.int (nI i), .int (nI 3)]) (rest := []) ⟨hx, hb, hml, hown, hts⟩ (c_X0_fact l D cI cB cO H.size h0 h1 h2 n P F i 3 (by first | assumption | omega)) (cwV 2 hts gX0_lossBy_X0_fact rfl rfl rfl (by decide +kernel) ⟨Nat.le_of_ble_eq_true rfl, Nat.le_of_ble_eq_true rfl⟩) (preV_of hK hP hD hS hA hSt [0, 1] (by decide) rfl 0 (ci := 0) rfl rfl) rfl rfl hl.1 rfl (lv_room (Nat.le_of_ble_eq_true rfl)) dX0_lossBy_3 ⟨Nat.le_of_ble_eq_true rfl, Nat.le_of_ble_eq_true rfl⟩) hP hD hS hA [0, 1] [] [0, 1] [] (fun (u_1 : Unit) => [(h0, .inr (0, [.int (nI n), .int P, .ref h1, .ref h2])), (h1, .inl (cI, 50, .inl F))]) rfl rfl (by decide) (by decide) (by decide) (fun _ => rfl) (fun r_1 u_1 H locs q_1 hP hD hS => ?_)
  obtain rfl : r_1 = F (i * 5 + 3) := q_1
  refine lv_iconst (v := 1) hx hb dX0_lossBy_6 (by decide) ?_
  refine lv_icmp_ne (tgt := 18) hx hb dX0_lossBy_7 (by decide) (fun c_2 => ?_) (fun c_2 => ?_)
  · refine lv_iload_n hx hb dX0_lossBy_18 rfl (lv_at hl 2 rfl) ?_
    refine lv_istore_n (lv' := [(3, .int q), (0, .ref h0), (1, .int (nI i)), (2, .int q)]) hx hb dX0_lossBy_19 rfl hl (by decide) rfl (fun ls hl => ?_)
    refine lv_aload_n hx hb dX0_lossBy_20 rfl (lv_at hl 1 rfl) ?_
    refine lv_iload_n hx hb dX0_lossBy_21 rfl (lv_at hl 2 rfl) ?_
    refine lv_iconst (v := 0) hx hb dX0_lossBy_22 (by decide) ?_
    refine k_i (va_runV (As := [.int (nI i), .int (nI 0)]) (rest := []) ⟨hx, hb, hml, hown, hts⟩ (c_X0_fact l D cI cB cO H.size h0 h1 h2 n P F i 0 (by first | assumption | omega)) (cwV 2 hts gX0_lossBy_X0_fact rfl rfl rfl (by decide +kernel) ⟨Nat.le_of_ble_eq_true rfl, Nat.le_of_ble_eq_true rfl⟩) (preV_of hK hP hD hS hA hSt [0, 1] (by decide) rfl 0 (ci := 0) rfl rfl) rfl rfl hl.1 rfl (lv_room (Nat.le_of_ble_eq_true rfl)) dX0_lossBy_23 ⟨Nat.le_of_ble_eq_true rfl, Nat.le_of_ble_eq_true rfl⟩) hP hD hS hA [0, 1] [] [0, 1] [] (fun (u_3 : Unit) => [(h0, .inr (0, [.int (nI n), .int P, .ref h1, .ref h2])), (h1, .inl (cI, 50, .inl F))]) rfl rfl (by decide) (by decide) (by decide) (fun _ => rfl) (fun r_3 u_3 H locs q_3 hP hD hS => ?_)
    obtain rfl : r_3 = F (i * 5 + 0) := q_3
    obtain ⟨t_4, hZt_4, hTt_4⟩ := hSt.2.1
    refine va_getsN hx hb hZt_4 hS hown (va_Nw.use rfl hSt.1.2.2.2.2.2.2.2.2.1) (fun _ h9 => h9) dX0_lossBy_26 ?_
    refine lv_aload_n hx hb dX0_lossBy_29 rfl (lv_at hl 1 rfl) ?_
    refine lv_iload_n hx hb dX0_lossBy_30 rfl (lv_at hl 2 rfl) ?_
    refine lv_iconst (v := 1) hx hb dX0_lossBy_31 (by decide) ?_
    refine k_i (va_runV (As := [.int (nI i), .int (nI 1)]) (rest := [.ref t_4, .int (F (i * 5 + 0))]) ⟨hx, hb, hml, hown, hts⟩ (c_X0_fact l D cI cB cO H.size h0 h1 h2 n P F i 1 (by first | assumption | omega)) (cwV 2 hts gX0_lossBy_X0_fact rfl rfl rfl (by decide +kernel) ⟨Nat.le_of_ble_eq_true rfl, Nat.le_of_ble_eq_true rfl⟩) (preV_of hK hP hD hS hA hSt [0, 1] (by decide) rfl 0 (ci := 0) rfl rfl) rfl rfl hl.1 rfl (lv_room (Nat.le_of_ble_eq_true rfl)) dX0_lossBy_32 ⟨Nat.le_of_ble_eq_true rfl, Nat.le_of_ble_eq_true rfl⟩) hP hD hS hA [0, 1] [] [0, 1] [] (fun (u_5 : Unit) => [(h0, .inr (0, [.int (nI n), .int P, .ref h1, .ref h2])), (h1, .inl (cI, 50, .inl F))]) rfl rfl (by decide) (by decide) (by decide) (fun _ => rfl) (fun r_5 u_5 H locs q_5 hP hD hS => ?_)
    obtain rfl : r_5 = F (i * 5 + 1) := q_5
    refine va_ti hx hb hTt_4 hS (v := .int (kHard (Int32.toNatClampNeg (F (i * 5 + 1))))) hs rfl dX0_lossBy_35 ?_
    refine lv_imul hx hb dX0_lossBy_36 ?_
    refine lv_iload_n hx hb dX0_lossBy_37 rfl (lv_at hl 0 rfl) ?_
    refine lv_imul hx hb dX0_lossBy_38 ?_
    refine lv_iload_n hx hb dX0_lossBy_39 rfl (lv_at hl 0 rfl) ?_
    refine lv_imul hx hb dX0_lossBy_40 ?_
    refine lv_bipush (v := 100) hx hb dX0_lossBy_41 (by decide) ?_
    refine lv_idiv hx hb dX0_lossBy_43 (by decide) ?_
    refine lv_aload_n hx hb dX0_lossBy_44 rfl (lv_at hl 1 rfl) ?_
    refine lv_iload_n hx hb dX0_lossBy_45 rfl (lv_at hl 2 rfl) ?_
    refine lv_iconst (v := 2) hx hb dX0_lossBy_46 (by decide) ?_
    refine k_i (va_runV (As := [.int (nI i), .int (nI 2)]) (rest := [.int (((((F (i * 5 + 0)) * (kHard (Int32.toNatClampNeg (F (i * 5 + 1))))) * q) * q) / 100)]) ⟨hx, hb, hml, hown, hts⟩ (c_X0_fact l D cI cB cO H.size h0 h1 h2 n P F i 2 (by first | assumption | omega)) (cwV 2 hts gX0_lossBy_X0_fact rfl rfl rfl (by decide +kernel) ⟨Nat.le_of_ble_eq_true rfl, Nat.le_of_ble_eq_true rfl⟩) (preV_of hK hP hD hS hA hSt [0, 1] (by decide) rfl 0 (ci := 0) rfl rfl) rfl rfl hl.1 rfl (lv_room (Nat.le_of_ble_eq_true rfl)) dX0_lossBy_47 ⟨Nat.le_of_ble_eq_true rfl, Nat.le_of_ble_eq_true rfl⟩) hP hD hS hA [0, 1] [] [0, 1] [] (fun (u_6 : Unit) => [(h0, .inr (0, [.int (nI n), .int P, .ref h1, .ref h2])), (h1, .inl (cI, 50, .inl F))]) rfl rfl (by decide) (by decide) (by decide) (fun _ => rfl) (fun r_6 u_6 H locs q_6 hP hD hS => ?_)
    obtain rfl : r_6 = F (i * 5 + 2) := q_6
    refine lv_iadd hx hb dX0_lossBy_50 ?_
    refine e_i (u := ()) hx hb hr hlocks hP hD hS dX0_lossBy_51 ?_ ?_
    · rfl
    · unfold lossF flowF; first | (rw [if_pos (by assumption)]) | (rw [if_neg (by assumption)])
  · refine lv_iload_n hx hb dX0_lossBy_10 rfl (lv_at hl 2 rfl) ?_
    refine lv_iconst (v := 1) hx hb dX0_lossBy_11 (by decide) ?_
    refine lv_iadd hx hb dX0_lossBy_12 ?_
    refine lv_iconst (v := 2) hx hb dX0_lossBy_13 (by decide) ?_
    refine lv_idiv hx hb dX0_lossBy_14 (by decide) ?_
    refine lv_goto (tgt := 19) hx hb dX0_lossBy_15 (by decide) ?_
    refine lv_istore_n (lv' := [(3, .int ((q + 1) / 2)), (0, .ref h0), (1, .int (nI i)), (2, .int q)]) hx hb dX0_lossBy_19 rfl hl (by decide) rfl (fun ls hl => ?_)
    refine lv_aload_n hx hb dX0_lossBy_20 rfl (lv_at hl 1 rfl) ?_
    refine lv_iload_n hx hb dX0_lossBy_21 rfl (lv_at hl 2 rfl) ?_
    refine lv_iconst (v := 0) hx hb dX0_lossBy_22 (by decide) ?_
    refine k_i (va_runV (As := [.int (nI i), .int (nI 0)]) (rest := []) ⟨hx, hb, hml, hown, hts⟩ (c_X0_fact l D cI cB cO H.size h0 h1 h2 n P F i 0 (by first | assumption | omega)) (cwV 2 hts gX0_lossBy_X0_fact rfl rfl rfl (by decide +kernel) ⟨Nat.le_of_ble_eq_true rfl, Nat.le_of_ble_eq_true rfl⟩) (preV_of hK hP hD hS hA hSt [0, 1] (by decide) rfl 0 (ci := 0) rfl rfl) rfl rfl hl.1 rfl (lv_room (Nat.le_of_ble_eq_true rfl)) dX0_lossBy_23 ⟨Nat.le_of_ble_eq_true rfl, Nat.le_of_ble_eq_true rfl⟩) hP hD hS hA [0, 1] [] [0, 1] [] (fun (u_7 : Unit) => [(h0, .inr (0, [.int (nI n), .int P, .ref h1, .ref h2])), (h1, .inl (cI, 50, .inl F))]) rfl rfl (by decide) (by decide) (by decide) (fun _ => rfl) (fun r_7 u_7 H locs q_7 hP hD hS => ?_)
    obtain rfl : r_7 = F (i * 5 + 0) := q_7
    obtain ⟨t_8, hZt_8, hTt_8⟩ := hSt.2.1
    refine va_getsN hx hb hZt_8 hS hown (va_Nw.use rfl hSt.1.2.2.2.2.2.2.2.2.1) (fun _ h9 => h9) dX0_lossBy_26 ?_
    refine lv_aload_n hx hb dX0_lossBy_29 rfl (lv_at hl 1 rfl) ?_
    refine lv_iload_n hx hb dX0_lossBy_30 rfl (lv_at hl 2 rfl) ?_
    refine lv_iconst (v := 1) hx hb dX0_lossBy_31 (by decide) ?_
    refine k_i (va_runV (As := [.int (nI i), .int (nI 1)]) (rest := [.ref t_8, .int (F (i * 5 + 0))]) ⟨hx, hb, hml, hown, hts⟩ (c_X0_fact l D cI cB cO H.size h0 h1 h2 n P F i 1 (by first | assumption | omega)) (cwV 2 hts gX0_lossBy_X0_fact rfl rfl rfl (by decide +kernel) ⟨Nat.le_of_ble_eq_true rfl, Nat.le_of_ble_eq_true rfl⟩) (preV_of hK hP hD hS hA hSt [0, 1] (by decide) rfl 0 (ci := 0) rfl rfl) rfl rfl hl.1 rfl (lv_room (Nat.le_of_ble_eq_true rfl)) dX0_lossBy_32 ⟨Nat.le_of_ble_eq_true rfl, Nat.le_of_ble_eq_true rfl⟩) hP hD hS hA [0, 1] [] [0, 1] [] (fun (u_9 : Unit) => [(h0, .inr (0, [.int (nI n), .int P, .ref h1, .ref h2])), (h1, .inl (cI, 50, .inl F))]) rfl rfl (by decide) (by decide) (by decide) (fun _ => rfl) (fun r_9 u_9 H locs q_9 hP hD hS => ?_)
    obtain rfl : r_9 = F (i * 5 + 1) := q_9
    refine va_ti hx hb hTt_8 hS (v := .int (kHard (Int32.toNatClampNeg (F (i * 5 + 1))))) hs rfl dX0_lossBy_35 ?_
    refine lv_imul hx hb dX0_lossBy_36 ?_
    refine lv_iload_n hx hb dX0_lossBy_37 rfl (lv_at hl 0 rfl) ?_
    refine lv_imul hx hb dX0_lossBy_38 ?_
    refine lv_iload_n hx hb dX0_lossBy_39 rfl (lv_at hl 0 rfl) ?_
    refine lv_imul hx hb dX0_lossBy_40 ?_
    refine lv_bipush (v := 100) hx hb dX0_lossBy_41 (by decide) ?_
    refine lv_idiv hx hb dX0_lossBy_43 (by decide) ?_
    refine lv_aload_n hx hb dX0_lossBy_44 rfl (lv_at hl 1 rfl) ?_
    refine lv_iload_n hx hb dX0_lossBy_45 rfl (lv_at hl 2 rfl) ?_
    refine lv_iconst (v := 2) hx hb dX0_lossBy_46 (by decide) ?_
    refine k_i (va_runV (As := [.int (nI i), .int (nI 2)]) (rest := [.int (((((F (i * 5 + 0)) * (kHard (Int32.toNatClampNeg (F (i * 5 + 1))))) * ((q + 1) / 2)) * ((q + 1) / 2)) / 100)]) ⟨hx, hb, hml, hown, hts⟩ (c_X0_fact l D cI cB cO H.size h0 h1 h2 n P F i 2 (by first | assumption | omega)) (cwV 2 hts gX0_lossBy_X0_fact rfl rfl rfl (by decide +kernel) ⟨Nat.le_of_ble_eq_true rfl, Nat.le_of_ble_eq_true rfl⟩) (preV_of hK hP hD hS hA hSt [0, 1] (by decide) rfl 0 (ci := 0) rfl rfl) rfl rfl hl.1 rfl (lv_room (Nat.le_of_ble_eq_true rfl)) dX0_lossBy_47 ⟨Nat.le_of_ble_eq_true rfl, Nat.le_of_ble_eq_true rfl⟩) hP hD hS hA [0, 1] [] [0, 1] [] (fun (u_10 : Unit) => [(h0, .inr (0, [.int (nI n), .int P, .ref h1, .ref h2])), (h1, .inl (cI, 50, .inl F))]) rfl rfl (by decide) (by decide) (by decide) (fun _ => rfl) (fun r_10 u_10 H locs q_10 hP hD hS => ?_)
    obtain rfl : r_10 = F (i * 5 + 2) := q_10
    refine lv_iadd hx hb dX0_lossBy_50 ?_
    refine e_i (u := ()) hx hb hr hlocks hP hD hS dX0_lossBy_51 ?_ ?_
    · rfl
    · unfold lossF flowF; first | (rw [if_pos (by assumption)]) | (rw [if_neg (by assumption)])
set_option maxHeartbeats 4000000 in
set_option maxRecDepth 100000 in
theorem c_X0_failureOf (l : Launch) (D : va_G) (cI cB cO : ClassId) (sz : Nat) (h0 h1 h2 n : Nat) (P : Int32) (F : Nat → Int32) (i : Nat) (p q : Int32) (hi : i < 10) (hs : vp_in (F (i * 5 + 1)) 4) : CI l yX0_failureOf wsX0_failureOf ({ frames := 2, cells := 0, slots := 0, locals := 45 } : Room) D (tyL cI cB cO) [.ref h0, .int (nI i), .int p, .int q] [(h0, .inr (0, [.int (nI n), .int P, .ref h1, .ref h2])), (h1, .inl (cI, 50, .inl F))] sz (fun (r : Int32) (_ : Unit) => r = failF F i p q) (fun (u : Unit) => [(h0, .inr (0, [.int (nI n), .int P, .ref h1, .ref h2])), (h1, .inl (cI, 50, .inl F))]) 0 0 := by
  refine ct_of (cc := cX0_failureOf) (maxL := 4) (ret := some .int) (own := RX0) (Qc := QI D (fun (r : Int32) (_ : Unit) => r = failF F i p q) (fun (u : Unit) => [(h0, .inr (0, [.int (nI n), .int P, .ref h1, .ref h2])), (h1, .inl (cI, 50, .inl F))])) (by decide) rfl rfl (Nat.le_of_ble_eq_true rfl) ?_
  intro pM eM sM mM below meth cM AM ls H locs hx hb hr hts hown hlocks hml hin hK hP hD hS hA hSt hl
  have hl : lv_has ls 4 [(0, .ref h0), (1, .int (nI i)), (2, .int p), (3, .int q)] := hl
  refine lv_aload_n hx hb dX0_failureOf_0 rfl (lv_at hl 0 rfl) ?_
  refine lv_iload_n hx hb dX0_failureOf_1 rfl (lv_at hl 1 rfl) ?_
  refine lv_iconst (v := 4) hx hb dX0_failureOf_2 (by decide) ?_
  refine k_i (va_runV (As := [.int (nI i), .int (nI 4)]) (rest := []) ⟨hx, hb, hml, hown, hts⟩ (c_X0_fact l D cI cB cO H.size h0 h1 h2 n P F i 4 (by first | assumption | omega)) (cwV 2 hts gX0_failureOf_X0_fact rfl rfl rfl (by decide +kernel) ⟨Nat.le_of_ble_eq_true rfl, Nat.le_of_ble_eq_true rfl⟩) (preV_of hK hP hD hS hA hSt [0, 1] (by decide) rfl 0 (ci := 0) rfl rfl) rfl rfl hl.1 rfl (lv_room (Nat.le_of_ble_eq_true rfl)) dX0_failureOf_3 ⟨Nat.le_of_ble_eq_true rfl, Nat.le_of_ble_eq_true rfl⟩) hP hD hS hA [0, 1] [] [0, 1] [] (fun (u_1 : Unit) => [(h0, .inr (0, [.int (nI n), .int P, .ref h1, .ref h2])), (h1, .inl (cI, 50, .inl F))]) rfl rfl (by decide) (by decide) (by decide) (fun _ => rfl) (fun r_1 u_1 H locs q_1 hP hD hS => ?_)
  obtain rfl : r_1 = F (i * 5 + 4) := q_1
  refine lv_iconst (v := 1) hx hb dX0_failureOf_6 (by decide) ?_
  refine lv_icmp_ne (tgt := 12) hx hb dX0_failureOf_7 (by decide) (fun c_2 => ?_) (fun c_2 => ?_)
  · refine lv_iload_n hx hb dX0_failureOf_12 rfl (lv_at hl 2 rfl) ?_
    obtain ⟨t_3, hZt_3, hTt_3⟩ := hSt.2.2.1
    refine va_getsN hx hb hZt_3 hS hown (va_Nw.use rfl hSt.1.2.2.2.2.2.2.2.2.2.1) (fun _ h9 => h9) dX0_failureOf_13 ?_
    refine lv_aload_n hx hb dX0_failureOf_16 rfl (lv_at hl 0 rfl) ?_
    refine lv_iload_n hx hb dX0_failureOf_17 rfl (lv_at hl 1 rfl) ?_
    refine lv_iconst (v := 1) hx hb dX0_failureOf_18 (by decide) ?_
    refine k_i (va_runV (As := [.int (nI i), .int (nI 1)]) (rest := [.ref t_3, .int p]) ⟨hx, hb, hml, hown, hts⟩ (c_X0_fact l D cI cB cO H.size h0 h1 h2 n P F i 1 (by first | assumption | omega)) (cwV 2 hts gX0_failureOf_X0_fact rfl rfl rfl (by decide +kernel) ⟨Nat.le_of_ble_eq_true rfl, Nat.le_of_ble_eq_true rfl⟩) (preV_of hK hP hD hS hA hSt [0, 1] (by decide) rfl 0 (ci := 0) rfl rfl) rfl rfl hl.1 rfl (lv_room (Nat.le_of_ble_eq_true rfl)) dX0_failureOf_19 ⟨Nat.le_of_ble_eq_true rfl, Nat.le_of_ble_eq_true rfl⟩) hP hD hS hA [0, 1] [] [0, 1] [] (fun (u_4 : Unit) => [(h0, .inr (0, [.int (nI n), .int P, .ref h1, .ref h2])), (h1, .inl (cI, 50, .inl F))]) rfl rfl (by decide) (by decide) (by decide) (fun _ => rfl) (fun r_4 u_4 H locs q_4 hP hD hS => ?_)
    obtain rfl : r_4 = F (i * 5 + 1) := q_4
    refine va_ti hx hb hTt_3 hS (v := .int (kStands (Int32.toNatClampNeg (F (i * 5 + 1))))) hs rfl dX0_failureOf_22 ?_
    refine lv_icmp_le (tgt := 28) hx hb dX0_failureOf_23 (by decide) (fun c_5 => ?_) (fun c_5 => ?_)
    · have c_5 := Int32.not_lt.mpr c_5
      refine lv_iload_n hx hb dX0_failureOf_28 rfl (lv_at hl 2 rfl) ?_
      refine lv_aload_n hx hb dX0_failureOf_29 rfl (lv_at hl 0 rfl) ?_
      refine lv_iload_n hx hb dX0_failureOf_30 rfl (lv_at hl 1 rfl) ?_
      refine lv_iload_n hx hb dX0_failureOf_31 rfl (lv_at hl 3 rfl) ?_
      refine k_i (va_runV (As := [.int (nI i), .int q]) (rest := [.int p]) ⟨hx, hb, hml, hown, hts⟩ (c_X0_lossBy l D cI cB cO H.size h0 h1 h2 n P F i q (by first | assumption | omega) (by first | assumption | omega)) (cwV 2 hts gX0_failureOf_X0_lossBy rfl rfl rfl (by decide +kernel) ⟨Nat.le_of_ble_eq_true rfl, Nat.le_of_ble_eq_true rfl⟩) (preV_of hK hP hD hS hA hSt [0, 1] (by decide) rfl 0 (ci := 0) rfl rfl) rfl rfl hl.1 rfl (lv_room (Nat.le_of_ble_eq_true rfl)) dX0_failureOf_32 ⟨Nat.le_of_ble_eq_true rfl, Nat.le_of_ble_eq_true rfl⟩) hP hD hS hA [0, 1] [] [0, 1] [] (fun (u_6 : Unit) => [(h0, .inr (0, [.int (nI n), .int P, .ref h1, .ref h2])), (h1, .inl (cI, 50, .inl F))]) rfl rfl (by decide) (by decide) (by decide) (fun _ => rfl) (fun r_6 u_6 H locs q_6 hP hD hS => ?_)
      obtain rfl : r_6 = lossF F i q := q_6
      refine lv_isub hx hb dX0_failureOf_35 ?_
      refine lv_if_ge (tgt := 43) hx hb dX0_failureOf_36 (by decide) (fun c_7 => ?_) (fun c_7 => ?_)
      · have c_7 := Int32.not_lt.mpr c_7
        refine lv_iconst (v := 0) hx hb dX0_failureOf_43 (by decide) ?_
        refine e_i (u := ()) hx hb hr hlocks hP hD hS dX0_failureOf_44 ?_ ?_
        · rfl
        · unfold failF; first | (rw [if_pos (by assumption)]) | (rw [if_neg (by assumption), if_pos (by assumption)]) | (rw [if_neg (by assumption), if_neg (by assumption), if_pos (by assumption)]) | (rw [if_neg (by assumption), if_neg (by assumption), if_neg (by assumption)])
      · have c_7 := Int32.not_le.mp c_7
        refine lv_iconst (v := 3) hx hb dX0_failureOf_39 (by decide) ?_
        refine lv_goto (tgt := 44) hx hb dX0_failureOf_40 (by decide) ?_
        refine e_i (u := ()) hx hb hr hlocks hP hD hS dX0_failureOf_44 ?_ ?_
        · rfl
        · unfold failF; first | (rw [if_pos (by assumption)]) | (rw [if_neg (by assumption), if_pos (by assumption)]) | (rw [if_neg (by assumption), if_neg (by assumption), if_pos (by assumption)]) | (rw [if_neg (by assumption), if_neg (by assumption), if_neg (by assumption)])
    · have c_5 := Int32.not_le.mp c_5
      refine lv_iconst (v := 4) hx hb dX0_failureOf_26 (by decide) ?_
      refine e_i (u := ()) hx hb hr hlocks hP hD hS dX0_failureOf_27 ?_ ?_
      · rfl
      · unfold failF; first | (rw [if_pos (by assumption)]) | (rw [if_neg (by assumption), if_pos (by assumption)]) | (rw [if_neg (by assumption), if_neg (by assumption), if_pos (by assumption)]) | (rw [if_neg (by assumption), if_neg (by assumption), if_neg (by assumption)])
  · refine lv_iconst (v := 1) hx hb dX0_failureOf_10 (by decide) ?_
    refine e_i (u := ()) hx hb hr hlocks hP hD hS dX0_failureOf_11 ?_ ?_
    · rfl
    · unfold failF; first | (rw [if_pos (by assumption)]) | (rw [if_neg (by assumption), if_pos (by assumption)]) | (rw [if_neg (by assumption), if_neg (by assumption), if_pos (by assumption)]) | (rw [if_neg (by assumption), if_neg (by assumption), if_neg (by assumption)])
theorem in_X0_hasPump_0 : ∀ w ∈ wsX00, w ∈ wsX0_hasPump := fun _ h => List.mem_cons_of_mem _ (List.mem_append_right _ h)
set_option maxHeartbeats 4000000 in
set_option maxRecDepth 100000 in
theorem c_X0_hasPump (l : Launch) (D : va_G) (cI cB cO : ClassId) (sz : Nat) (h0 h1 h2 n p : Nat) (i : Nat) (hi : i ≤ 10) : CI l yX0_hasPump wsX0_hasPump ({ frames := 0, cells := 0, slots := 0, locals := 0 } : Room) D (tyL cI cB cO) [.ref h0, .int (nI i)] [(h0, .inr (0, [.int (nI n), .int (nI p), .ref h1, .ref h2]))] sz (fun (r : Int32) (_ : Unit) => r = bI (p.testBit i)) (fun (u : Unit) => [(h0, .inr (0, [.int (nI n), .int (nI p), .ref h1, .ref h2]))]) 0 0 := by
  refine ct_of (cc := cX0_hasPump) (maxL := 2) (ret := some .boolean) (own := RX0) (Qc := QI D (fun (r : Int32) (_ : Unit) => r = bI (p.testBit i)) (fun (u : Unit) => [(h0, .inr (0, [.int (nI n), .int (nI p), .ref h1, .ref h2]))])) (by decide) rfl rfl (Nat.le_of_ble_eq_true rfl) ?_
  intro pM eM sM mM below meth cM AM ls H locs hx hb hr hts hown hlocks hml hin hK hP hD hS hA hSt hl
  have hl : lv_has ls 2 [(0, .ref h0), (1, .int (nI i))] := hl
  refine lv_aload_n hx hb dX0_hasPump_0 rfl (lv_at hl 0 rfl) ?_
  refine va_get (D := D) (ci := 0) (v := .int (nI p)) (C := RX0) (T := TX0) (N := 4) hx hb hts in_X0_hasPump_0 hown hK hP 0 rfl rfl 1 (by decide) (hts (.fieldLink RX0 15 "HoseSpans$Line" "pumps" "I") (List.mem_of_getElem? (i := 1) (by decide +kernel))) (fun _ h9 => h9) rfl dX0_hasPump_1 ?_
  refine lv_iconst (v := 1) hx hb dX0_hasPump_4 (by decide) ?_
  refine lv_iload_n hx hb dX0_hasPump_5 rfl (lv_at hl 1 rfl) ?_
  refine lv_ishl hx hb dX0_hasPump_6 ?_
  refine lv_iand hx hb dX0_hasPump_7 ?_
  refine lv_if_eq (tgt := 15) hx hb dX0_hasPump_8 (by decide) (fun c_1 => ?_) (fun c_1 => ?_)
  · refine lv_iconst (v := 0) hx hb dX0_hasPump_15 (by decide) ?_
    refine e_z (u := ()) hx hb hr (by first | rfl | exact bI_nar _) hlocks hP hD hS dX0_hasPump_16 ?_ ?_
    · rfl
    · first | exact bI_f ((bit_0 hi).mp (by assumption)) | exact bI_t (b_nf (fun h => absurd ((bit_0 hi).mpr h) (by assumption)))
  · refine lv_iconst (v := 1) hx hb dX0_hasPump_11 (by decide) ?_
    refine lv_goto (tgt := 16) hx hb dX0_hasPump_12 (by decide) ?_
    refine e_z (u := ()) hx hb hr (by first | rfl | exact bI_nar _) hlocks hP hD hS dX0_hasPump_16 ?_ ?_
    · rfl
    · first | exact bI_f ((bit_0 hi).mp (by assumption)) | exact bI_t (b_nf (fun h => absurd ((bit_0 hi).mpr h) (by assumption)))
theorem in_X0_addSpan_0 : ∀ w ∈ wsX00, w ∈ wsX0_addSpan := fun _ h => List.mem_cons_of_mem _ (List.mem_append_right _ h)
set_option maxHeartbeats 4000000 in
set_option maxRecDepth 100000 in
theorem c_X0_addSpan (l : Launch) (D : va_G) (cI cB cO : ClassId) (sz : Nat) (h0 h1 h2 n : Nat) (P : Int32) (F G : Nat → Int32) (mm ss rr tt : Int32) (hn : n ≤ 10) : CI l yX0_addSpan wsX0_addSpan ({ frames := 1, cells := 0, slots := 0, locals := 23 } : Room) D (tyL cI cB cO) [.ref h0, .int mm, .int ss, .int rr, .int tt] [(h0, .inr (0, [.int (nI n), .int P, .ref h1, .ref h2])), (h1, .inl (cI, 50, .inl F)), (h2, .inl (cI, 6, .inl G))] sz (fun (ans : Int32) (u : Ln) => (ans, u) = sSpan (n, P, F, G) mm ss rr tt) (fun (u : Ln) => [(h0, .inr (0, [.int (nI u.1), .int u.2.1, .ref h1, .ref h2])), (h1, .inl (cI, 50, .inl u.2.2.1)), (h2, .inl (cI, 6, .inl u.2.2.2))]) 0 0 := by
  refine ct_of (cc := cX0_addSpan) (maxL := 5) (ret := some .int) (own := RX0) (Qc := QI D (fun (ans : Int32) (u : Ln) => (ans, u) = sSpan (n, P, F, G) mm ss rr tt) (fun (u : Ln) => [(h0, .inr (0, [.int (nI u.1), .int u.2.1, .ref h1, .ref h2])), (h1, .inl (cI, 50, .inl u.2.2.1)), (h2, .inl (cI, 6, .inl u.2.2.2))])) (by decide) rfl rfl (Nat.le_of_ble_eq_true rfl) ?_
  intro pM eM sM mM below meth cM AM ls H locs hx hb hr hts hown hlocks hml hin hK hP hD hS hA hSt hl
  have hl : lv_has ls 5 [(0, .ref h0), (1, .int mm), (2, .int ss), (3, .int rr), (4, .int tt)] := hl
  refine lv_iload_n hx hb dX0_addSpan_0 rfl (lv_at hl 1 rfl) ?_
  refine lv_iconst (v := 1) hx hb dX0_addSpan_1 (by decide) ?_
  refine lv_bipush (v := 30) hx hb dX0_addSpan_2 (by decide) ?_
  refine k_i (va_runSN (As := [.int mm, .int 1, .int 30]) (rest := []) ⟨hx, hb, hml, hown, hts⟩ (c_X4_within l D cI cB cO H.size mm 1 30 ) ⟨va_cnB 3 hts gX0_addSpan_X4_within_n34 rfl rfl rfl hSt.1.1 (hts (.initialized RX4) (List.mem_of_getElem? (i := 5) (by decide +kernel))) (by decide +kernel) ⟨Nat.le_of_ble_eq_true rfl, Nat.le_of_ble_eq_true rfl⟩, (hts (.static yX4_within) (List.mem_of_getElem? (i := 4) (by decide +kernel))), trivial⟩ (preS_of hK hP hD hS hA hSt [] (by decide) rfl) rfl rfl hl.1 rfl (lv_room (Nat.le_of_ble_eq_true rfl)) dX0_addSpan_4 ⟨Nat.le_of_ble_eq_true rfl, Nat.le_of_ble_eq_true rfl⟩) hP hD hS hA [] [0, 1, 2] [0, 1, 2] [(h0, .inr (0, [.int (nI n), .int P, .ref h1, .ref h2])), (h1, .inl (cI, 50, .inl F)), (h2, .inl (cI, 6, .inl G))] (fun (u_1 : Unit) => [(h0, .inr (0, [.int (nI n), .int P, .ref h1, .ref h2])), (h1, .inl (cI, 50, .inl F)), (h2, .inl (cI, 6, .inl G))]) rfl rfl (by decide) (by decide) (by decide) (fun _ => rfl) (fun r_1 u_1 H locs q_1 hP hD hS => ?_)
  obtain rfl : r_1 = bI (inR mm 1 30) := q_1
  refine lv_if_eq (tgt := 40) hx hb dX0_addSpan_7 (by decide) (fun c_2 => ?_) (fun c_2 => ?_)
  · have c_2 := bI_0.mp c_2
    refine lv_ldc (v := -1000002) hx hb hown (hts (.constant RX0 38 (-1000002)) (List.mem_of_getElem? (i := 1) (by decide +kernel))) dX0_addSpan_40 ?_
    refine e_i (u := (n, P, F, G)) hx hb hr hlocks hP hD hS dX0_addSpan_42 ?_ ?_
    · rfl
    · first | exact (sSpan_f1 (by assumption)).symm | exact (sSpan_f2 (by assumption)).symm | exact (sSpan_f3 (by assumption)).symm | exact (sSpan_f4 (by assumption)).symm
  · have c_2 := bI_n0.mp c_2
    refine lv_iload_n hx hb dX0_addSpan_10 rfl (lv_at hl 2 rfl) ?_
    refine lv_iconst (v := 0) hx hb dX0_addSpan_11 (by decide) ?_
    refine lv_iconst (v := 3) hx hb dX0_addSpan_12 (by decide) ?_
    refine k_i (va_runSN (As := [.int ss, .int 0, .int 3]) (rest := []) ⟨hx, hb, hml, hown, hts⟩ (c_X4_within l D cI cB cO H.size ss 0 3 ) ⟨va_cnB 3 hts gX0_addSpan_X4_within_n34 rfl rfl rfl hSt.1.1 (hts (.initialized RX4) (List.mem_of_getElem? (i := 5) (by decide +kernel))) (by decide +kernel) ⟨Nat.le_of_ble_eq_true rfl, Nat.le_of_ble_eq_true rfl⟩, (hts (.static yX4_within) (List.mem_of_getElem? (i := 4) (by decide +kernel))), trivial⟩ (preS_of hK hP hD hS hA hSt [] (by decide) rfl) rfl rfl hl.1 rfl (lv_room (Nat.le_of_ble_eq_true rfl)) dX0_addSpan_13 ⟨Nat.le_of_ble_eq_true rfl, Nat.le_of_ble_eq_true rfl⟩) hP hD hS hA [] [0, 1, 2] [0, 1, 2] [(h0, .inr (0, [.int (nI n), .int P, .ref h1, .ref h2])), (h1, .inl (cI, 50, .inl F)), (h2, .inl (cI, 6, .inl G))] (fun (u_3 : Unit) => [(h0, .inr (0, [.int (nI n), .int P, .ref h1, .ref h2])), (h1, .inl (cI, 50, .inl F)), (h2, .inl (cI, 6, .inl G))]) rfl rfl (by decide) (by decide) (by decide) (fun _ => rfl) (fun r_3 u_3 H locs q_3 hP hD hS => ?_)
    obtain rfl : r_3 = bI (inR ss 0 3) := q_3
    refine lv_if_eq (tgt := 40) hx hb dX0_addSpan_16 (by decide) (fun c_4 => ?_) (fun c_4 => ?_)
    · have c_4 := bI_0.mp c_4
      refine lv_ldc (v := -1000002) hx hb hown (hts (.constant RX0 38 (-1000002)) (List.mem_of_getElem? (i := 1) (by decide +kernel))) dX0_addSpan_40 ?_
      refine e_i (u := (n, P, F, G)) hx hb hr hlocks hP hD hS dX0_addSpan_42 ?_ ?_
      · rfl
      · first | exact (sSpan_f1 (by assumption)).symm | exact (sSpan_f2 (by assumption)).symm | exact (sSpan_f3 (by assumption)).symm | exact (sSpan_f4 (by assumption)).symm
    · have c_4 := bI_n0.mp c_4
      refine lv_iload_n hx hb dX0_addSpan_19 rfl (lv_at hl 3 rfl) ?_
      refine lv_bipush (v := -50) hx hb dX0_addSpan_20 (by decide) ?_
      refine lv_bipush (v := 50) hx hb dX0_addSpan_22 (by decide) ?_
      refine k_i (va_runSN (As := [.int rr, .int (-50), .int 50]) (rest := []) ⟨hx, hb, hml, hown, hts⟩ (c_X4_within l D cI cB cO H.size rr (-50) 50 ) ⟨va_cnB 3 hts gX0_addSpan_X4_within_n34 rfl rfl rfl hSt.1.1 (hts (.initialized RX4) (List.mem_of_getElem? (i := 5) (by decide +kernel))) (by decide +kernel) ⟨Nat.le_of_ble_eq_true rfl, Nat.le_of_ble_eq_true rfl⟩, (hts (.static yX4_within) (List.mem_of_getElem? (i := 4) (by decide +kernel))), trivial⟩ (preS_of hK hP hD hS hA hSt [] (by decide) rfl) rfl rfl hl.1 rfl (lv_room (Nat.le_of_ble_eq_true rfl)) dX0_addSpan_24 ⟨Nat.le_of_ble_eq_true rfl, Nat.le_of_ble_eq_true rfl⟩) hP hD hS hA [] [0, 1, 2] [0, 1, 2] [(h0, .inr (0, [.int (nI n), .int P, .ref h1, .ref h2])), (h1, .inl (cI, 50, .inl F)), (h2, .inl (cI, 6, .inl G))] (fun (u_5 : Unit) => [(h0, .inr (0, [.int (nI n), .int P, .ref h1, .ref h2])), (h1, .inl (cI, 50, .inl F)), (h2, .inl (cI, 6, .inl G))]) rfl rfl (by decide) (by decide) (by decide) (fun _ => rfl) (fun r_5 u_5 H locs q_5 hP hD hS => ?_)
      obtain rfl : r_5 = bI (inR rr (-50) 50) := q_5
      refine lv_if_eq (tgt := 40) hx hb dX0_addSpan_27 (by decide) (fun c_6 => ?_) (fun c_6 => ?_)
      · have c_6 := bI_0.mp c_6
        refine lv_ldc (v := -1000002) hx hb hown (hts (.constant RX0 38 (-1000002)) (List.mem_of_getElem? (i := 1) (by decide +kernel))) dX0_addSpan_40 ?_
        refine e_i (u := (n, P, F, G)) hx hb hr hlocks hP hD hS dX0_addSpan_42 ?_ ?_
        · rfl
        · first | exact (sSpan_f1 (by assumption)).symm | exact (sSpan_f2 (by assumption)).symm | exact (sSpan_f3 (by assumption)).symm | exact (sSpan_f4 (by assumption)).symm
      · have c_6 := bI_n0.mp c_6
        refine lv_iload hx hb dX0_addSpan_30 (lv_at hl 4 rfl) ?_
        refine lv_iconst (v := 0) hx hb dX0_addSpan_32 (by decide) ?_
        refine lv_iconst (v := 1) hx hb dX0_addSpan_33 (by decide) ?_
        refine k_i (va_runSN (As := [.int tt, .int 0, .int 1]) (rest := []) ⟨hx, hb, hml, hown, hts⟩ (c_X4_within l D cI cB cO H.size tt 0 1 ) ⟨va_cnB 3 hts gX0_addSpan_X4_within_n34 rfl rfl rfl hSt.1.1 (hts (.initialized RX4) (List.mem_of_getElem? (i := 5) (by decide +kernel))) (by decide +kernel) ⟨Nat.le_of_ble_eq_true rfl, Nat.le_of_ble_eq_true rfl⟩, (hts (.static yX4_within) (List.mem_of_getElem? (i := 4) (by decide +kernel))), trivial⟩ (preS_of hK hP hD hS hA hSt [] (by decide) rfl) rfl rfl hl.1 rfl (lv_room (Nat.le_of_ble_eq_true rfl)) dX0_addSpan_34 ⟨Nat.le_of_ble_eq_true rfl, Nat.le_of_ble_eq_true rfl⟩) hP hD hS hA [] [0, 1, 2] [0, 1, 2] [(h0, .inr (0, [.int (nI n), .int P, .ref h1, .ref h2])), (h1, .inl (cI, 50, .inl F)), (h2, .inl (cI, 6, .inl G))] (fun (u_7 : Unit) => [(h0, .inr (0, [.int (nI n), .int P, .ref h1, .ref h2])), (h1, .inl (cI, 50, .inl F)), (h2, .inl (cI, 6, .inl G))]) rfl rfl (by decide) (by decide) (by decide) (fun _ => rfl) (fun r_7 u_7 H locs q_7 hP hD hS => ?_)
        obtain rfl : r_7 = bI (inR tt 0 1) := q_7
        refine lv_if_ne (tgt := 43) hx hb dX0_addSpan_37 (by decide) (fun c_8 => ?_) (fun c_8 => ?_)
        · have c_8 := bI_n0.mp c_8
          refine lv_aload_n hx hb dX0_addSpan_43 rfl (lv_at hl 0 rfl) ?_
          refine va_get (D := D) (ci := 0) (v := .int (nI n)) (C := RX0) (T := TX0) (N := 4) hx hb hts in_X0_addSpan_0 hown hK hP 0 rfl rfl 0 (by decide) (hts (.fieldLink RX0 9 "HoseSpans$Line" "spans" "I") (List.mem_of_getElem? (i := 2) (by decide +kernel))) (fun _ h9 => h9) rfl dX0_addSpan_44 ?_
          refine lv_bipush (v := 10) hx hb dX0_addSpan_47 (by decide) ?_
          refine lv_icmp_lt (tgt := 55) hx hb dX0_addSpan_49 (by decide) (fun c_9 => ?_) (fun c_9 => ?_)
          · have c_9 : n < 10 := (nI_ltI (by omega) (by decide)).mp c_9
            refine lv_aload_n hx hb dX0_addSpan_55 rfl (lv_at hl 0 rfl) ?_
            refine lv_aload_n hx hb dX0_addSpan_56 rfl (lv_at hl 0 rfl) ?_
            refine va_get (D := D) (ci := 0) (v := .int (nI n)) (C := RX0) (T := TX0) (N := 4) hx hb hts in_X0_addSpan_0 hown hK hP 0 rfl rfl 0 (by decide) (hts (.fieldLink RX0 9 "HoseSpans$Line" "spans" "I") (List.mem_of_getElem? (i := 2) (by decide +kernel))) (fun _ h9 => h9) rfl dX0_addSpan_57 ?_
            refine lv_iconst (v := 0) hx hb dX0_addSpan_60 (by decide) ?_
            refine lv_iload_n hx hb dX0_addSpan_61 rfl (lv_at hl 1 rfl) ?_
            refine k_v (va_runV (As := [.int (nI n), .int (nI 0), .int mm]) (rest := []) ⟨hx, hb, hml, hown, hts⟩ (c_X0_setFact l D cI cB cO H.size h0 h1 h2 n P F n 0 mm (by first | assumption | omega)) (cwV 3 hts gX0_addSpan_X0_setFact rfl rfl rfl (by decide +kernel) ⟨Nat.le_of_ble_eq_true rfl, Nat.le_of_ble_eq_true rfl⟩) (preV_of hK hP hD hS hA hSt [0, 1] (by decide) rfl 0 (ci := 0) rfl rfl) rfl rfl hl.1 rfl (lv_room (Nat.le_of_ble_eq_true rfl)) dX0_addSpan_62 ⟨Nat.le_of_ble_eq_true rfl, Nat.le_of_ble_eq_true rfl⟩) hP hD hS hA [0, 1] [2] [1, 2, 0] [(h2, .inl (cI, 6, .inl G))] (fun (u_10 : Unit) => [(h0, .inr (0, [.int (nI n), .int P, .ref h1, .ref h2])), (h1, .inl (cI, 50, .inl (upd F (n * 5 + 0) mm))), (h2, .inl (cI, 6, .inl G))]) rfl rfl (by decide) (by decide) (by decide) (fun _ => rfl) (fun u_10 H locs q_10 hP hD hS => ?_)
            refine lv_aload_n hx hb dX0_addSpan_65 rfl (lv_at hl 0 rfl) ?_
            refine lv_aload_n hx hb dX0_addSpan_66 rfl (lv_at hl 0 rfl) ?_
            refine va_get (D := D) (ci := 0) (v := .int (nI n)) (C := RX0) (T := TX0) (N := 4) hx hb hts in_X0_addSpan_0 hown hK hP 0 rfl rfl 0 (by decide) (hts (.fieldLink RX0 9 "HoseSpans$Line" "spans" "I") (List.mem_of_getElem? (i := 2) (by decide +kernel))) (fun _ h9 => h9) rfl dX0_addSpan_67 ?_
            refine lv_iconst (v := 1) hx hb dX0_addSpan_70 (by decide) ?_
            refine lv_iload_n hx hb dX0_addSpan_71 rfl (lv_at hl 2 rfl) ?_
            refine k_v (va_runV (As := [.int (nI n), .int (nI 1), .int ss]) (rest := []) ⟨hx, hb, hml, hown, hts⟩ (c_X0_setFact l D cI cB cO H.size h0 h1 h2 n P (upd F (n * 5 + 0) mm) n 1 ss (by first | assumption | omega)) (cwV 3 hts gX0_addSpan_X0_setFact rfl rfl rfl (by decide +kernel) ⟨Nat.le_of_ble_eq_true rfl, Nat.le_of_ble_eq_true rfl⟩) (preV_of hK hP hD hS hA hSt [0, 1] (by decide) rfl 0 (ci := 0) rfl rfl) rfl rfl hl.1 rfl (lv_room (Nat.le_of_ble_eq_true rfl)) dX0_addSpan_72 ⟨Nat.le_of_ble_eq_true rfl, Nat.le_of_ble_eq_true rfl⟩) hP hD hS hA [0, 1] [2] [1, 2, 0] [(h2, .inl (cI, 6, .inl G))] (fun (u_11 : Unit) => [(h0, .inr (0, [.int (nI n), .int P, .ref h1, .ref h2])), (h1, .inl (cI, 50, .inl (upd (upd F (n * 5 + 0) mm) (n * 5 + 1) ss))), (h2, .inl (cI, 6, .inl G))]) rfl rfl (by decide) (by decide) (by decide) (fun _ => rfl) (fun u_11 H locs q_11 hP hD hS => ?_)
            refine lv_aload_n hx hb dX0_addSpan_75 rfl (lv_at hl 0 rfl) ?_
            refine lv_aload_n hx hb dX0_addSpan_76 rfl (lv_at hl 0 rfl) ?_
            refine va_get (D := D) (ci := 0) (v := .int (nI n)) (C := RX0) (T := TX0) (N := 4) hx hb hts in_X0_addSpan_0 hown hK hP 0 rfl rfl 0 (by decide) (hts (.fieldLink RX0 9 "HoseSpans$Line" "spans" "I") (List.mem_of_getElem? (i := 2) (by decide +kernel))) (fun _ h9 => h9) rfl dX0_addSpan_77 ?_
            refine lv_iconst (v := 2) hx hb dX0_addSpan_80 (by decide) ?_
            refine lv_iload_n hx hb dX0_addSpan_81 rfl (lv_at hl 3 rfl) ?_
            refine k_v (va_runV (As := [.int (nI n), .int (nI 2), .int rr]) (rest := []) ⟨hx, hb, hml, hown, hts⟩ (c_X0_setFact l D cI cB cO H.size h0 h1 h2 n P (upd (upd F (n * 5 + 0) mm) (n * 5 + 1) ss) n 2 rr (by first | assumption | omega)) (cwV 3 hts gX0_addSpan_X0_setFact rfl rfl rfl (by decide +kernel) ⟨Nat.le_of_ble_eq_true rfl, Nat.le_of_ble_eq_true rfl⟩) (preV_of hK hP hD hS hA hSt [0, 1] (by decide) rfl 0 (ci := 0) rfl rfl) rfl rfl hl.1 rfl (lv_room (Nat.le_of_ble_eq_true rfl)) dX0_addSpan_82 ⟨Nat.le_of_ble_eq_true rfl, Nat.le_of_ble_eq_true rfl⟩) hP hD hS hA [0, 1] [2] [1, 2, 0] [(h2, .inl (cI, 6, .inl G))] (fun (u_12 : Unit) => [(h0, .inr (0, [.int (nI n), .int P, .ref h1, .ref h2])), (h1, .inl (cI, 50, .inl (upd (upd (upd F (n * 5 + 0) mm) (n * 5 + 1) ss) (n * 5 + 2) rr))), (h2, .inl (cI, 6, .inl G))]) rfl rfl (by decide) (by decide) (by decide) (fun _ => rfl) (fun u_12 H locs q_12 hP hD hS => ?_)
            refine lv_aload_n hx hb dX0_addSpan_85 rfl (lv_at hl 0 rfl) ?_
            refine lv_aload_n hx hb dX0_addSpan_86 rfl (lv_at hl 0 rfl) ?_
            refine va_get (D := D) (ci := 0) (v := .int (nI n)) (C := RX0) (T := TX0) (N := 4) hx hb hts in_X0_addSpan_0 hown hK hP 0 rfl rfl 0 (by decide) (hts (.fieldLink RX0 9 "HoseSpans$Line" "spans" "I") (List.mem_of_getElem? (i := 2) (by decide +kernel))) (fun _ h9 => h9) rfl dX0_addSpan_87 ?_
            refine lv_iconst (v := 3) hx hb dX0_addSpan_90 (by decide) ?_
            refine lv_iload hx hb dX0_addSpan_91 (lv_at hl 4 rfl) ?_
            refine k_v (va_runV (As := [.int (nI n), .int (nI 3), .int tt]) (rest := []) ⟨hx, hb, hml, hown, hts⟩ (c_X0_setFact l D cI cB cO H.size h0 h1 h2 n P (upd (upd (upd F (n * 5 + 0) mm) (n * 5 + 1) ss) (n * 5 + 2) rr) n 3 tt (by first | assumption | omega)) (cwV 3 hts gX0_addSpan_X0_setFact rfl rfl rfl (by decide +kernel) ⟨Nat.le_of_ble_eq_true rfl, Nat.le_of_ble_eq_true rfl⟩) (preV_of hK hP hD hS hA hSt [0, 1] (by decide) rfl 0 (ci := 0) rfl rfl) rfl rfl hl.1 rfl (lv_room (Nat.le_of_ble_eq_true rfl)) dX0_addSpan_93 ⟨Nat.le_of_ble_eq_true rfl, Nat.le_of_ble_eq_true rfl⟩) hP hD hS hA [0, 1] [2] [1, 2, 0] [(h2, .inl (cI, 6, .inl G))] (fun (u_13 : Unit) => [(h0, .inr (0, [.int (nI n), .int P, .ref h1, .ref h2])), (h1, .inl (cI, 50, .inl (upd (upd (upd (upd F (n * 5 + 0) mm) (n * 5 + 1) ss) (n * 5 + 2) rr) (n * 5 + 3) tt))), (h2, .inl (cI, 6, .inl G))]) rfl rfl (by decide) (by decide) (by decide) (fun _ => rfl) (fun u_13 H locs q_13 hP hD hS => ?_)
            refine lv_aload_n hx hb dX0_addSpan_96 rfl (lv_at hl 0 rfl) ?_
            refine lv_aload_n hx hb dX0_addSpan_97 rfl (lv_at hl 0 rfl) ?_
            refine va_get (D := D) (ci := 0) (v := .int (nI n)) (C := RX0) (T := TX0) (N := 4) hx hb hts in_X0_addSpan_0 hown hK hP 0 rfl rfl 0 (by decide) (hts (.fieldLink RX0 9 "HoseSpans$Line" "spans" "I") (List.mem_of_getElem? (i := 2) (by decide +kernel))) (fun _ h9 => h9) rfl dX0_addSpan_98 ?_
            refine lv_iconst (v := 4) hx hb dX0_addSpan_101 (by decide) ?_
            refine lv_iconst (v := 0) hx hb dX0_addSpan_102 (by decide) ?_
            refine k_v (va_runV (As := [.int (nI n), .int (nI 4), .int 0]) (rest := []) ⟨hx, hb, hml, hown, hts⟩ (c_X0_setFact l D cI cB cO H.size h0 h1 h2 n P (upd (upd (upd (upd F (n * 5 + 0) mm) (n * 5 + 1) ss) (n * 5 + 2) rr) (n * 5 + 3) tt) n 4 0 (by first | assumption | omega)) (cwV 3 hts gX0_addSpan_X0_setFact rfl rfl rfl (by decide +kernel) ⟨Nat.le_of_ble_eq_true rfl, Nat.le_of_ble_eq_true rfl⟩) (preV_of hK hP hD hS hA hSt [0, 1] (by decide) rfl 0 (ci := 0) rfl rfl) rfl rfl hl.1 rfl (lv_room (Nat.le_of_ble_eq_true rfl)) dX0_addSpan_103 ⟨Nat.le_of_ble_eq_true rfl, Nat.le_of_ble_eq_true rfl⟩) hP hD hS hA [0, 1] [2] [1, 2, 0] [(h2, .inl (cI, 6, .inl G))] (fun (u_14 : Unit) => [(h0, .inr (0, [.int (nI n), .int P, .ref h1, .ref h2])), (h1, .inl (cI, 50, .inl (upd (upd (upd (upd (upd F (n * 5 + 0) mm) (n * 5 + 1) ss) (n * 5 + 2) rr) (n * 5 + 3) tt) (n * 5 + 4) 0))), (h2, .inl (cI, 6, .inl G))]) rfl rfl (by decide) (by decide) (by decide) (fun _ => rfl) (fun u_14 H locs q_14 hP hD hS => ?_)
            refine lv_aload_n hx hb dX0_addSpan_106 rfl (lv_at hl 0 rfl) ?_
            refine lv_dup hx hb dX0_addSpan_107 rfl ?_
            refine va_get (D := D) (ci := 0) (v := .int (nI n)) (C := RX0) (T := TX0) (N := 4) hx hb hts in_X0_addSpan_0 hown hK hP 0 rfl rfl 0 (by decide) (hts (.fieldLink RX0 9 "HoseSpans$Line" "spans" "I") (List.mem_of_getElem? (i := 2) (by decide +kernel))) (fun _ h9 => h9) rfl dX0_addSpan_108 ?_
            refine lv_iconst (v := 1) hx hb dX0_addSpan_111 (by decide) ?_
            refine lv_iadd hx hb dX0_addSpan_112 ?_
            refine e_n (y := nI (n + 1)) (nI_add n 1) ?_
            refine va_put (D := D) (ci := 0) (v := .int (nI (n + 1))) (ty := .int) (C := RX0) (T := TX0) (N := 4) hx hb hts in_X0_addSpan_0 tyX0 tyX0_ok nmX0 hown hK hP hD hS 0 rfl rfl 0 (by decide) (hts (.fieldLink RX0 9 "HoseSpans$Line" "spans" "I") (List.mem_of_getElem? (i := 2) (by decide +kernel))) (fun _ h9 => h9) rfl (by decide +kernel) rfl rfl (Nat.le_of_ble_eq_true rfl) dX0_addSpan_113 (fun H locs hP hD hS => ?_)
            have hP : va_P D vwCl [(h0, .inr (0, [.int (nI (n + 1)), .int P, .ref h1, .ref h2])), (h1, .inl (cI, 50, .inl (upd (upd (upd (upd (upd F (n * 5 + 0) mm) (n * 5 + 1) ss) (n * 5 + 2) rr) (n * 5 + 3) tt) (n * 5 + 4) 0))), (h2, .inl (cI, 6, .inl G))] H := hP
            have hD : va_D AM [(h0, .inr (0, [.int (nI (n + 1)), .int P, .ref h1, .ref h2])), (h1, .inl (cI, 50, .inl (upd (upd (upd (upd (upd F (n * 5 + 0) mm) (n * 5 + 1) ss) (n * 5 + 2) rr) (n * 5 + 3) tt) (n * 5 + 4) 0))), (h2, .inl (cI, 6, .inl G))] := hD
            refine lv_aload_n hx hb dX0_addSpan_116 rfl (lv_at hl 0 rfl) ?_
            refine va_get (D := D) (ci := 0) (v := .int (nI (n + 1))) (C := RX0) (T := TX0) (N := 4) hx hb hts in_X0_addSpan_0 hown hK hP 0 rfl rfl 0 (by decide) (hts (.fieldLink RX0 9 "HoseSpans$Line" "spans" "I") (List.mem_of_getElem? (i := 2) (by decide +kernel))) (fun _ h9 => h9) rfl dX0_addSpan_117 ?_
            refine lv_iconst (v := 1) hx hb dX0_addSpan_120 (by decide) ?_
            refine lv_isub hx hb dX0_addSpan_121 ?_
            refine e_n (y := nI (n + 1 - 1)) (pk_sub (a := n + 1) (b := 1) (by omega)) ?_
            refine e_i (u := (n + 1, P, setSp F n mm ss rr tt, G)) hx hb hr hlocks hP hD hS dX0_addSpan_122 ?_ ?_
            · rfl
            · exact (sSpan_ok (by assumption) (by assumption) (by assumption) (by assumption) (by assumption)).symm
          · have c_9 : ¬ n < 10 := fun h => c_9 ((nI_ltI (a := n) (b := 10) (by omega) (by decide)).mpr h)
            refine lv_ldc (v := -1000004) hx hb hown (hts (.constant RX0 39 (-1000004)) (List.mem_of_getElem? (i := 3) (by decide +kernel))) dX0_addSpan_52 ?_
            refine e_i (u := (n, P, F, G)) hx hb hr hlocks hP hD hS dX0_addSpan_54 ?_ ?_
            · rfl
            · exact (sSpan_full (by assumption) (by assumption) (by assumption) (by assumption) (by assumption)).symm
        · have c_8 := bI_0.mp c_8
          refine lv_ldc (v := -1000002) hx hb hown (hts (.constant RX0 38 (-1000002)) (List.mem_of_getElem? (i := 1) (by decide +kernel))) dX0_addSpan_40 ?_
          refine e_i (u := (n, P, F, G)) hx hb hr hlocks hP hD hS dX0_addSpan_42 ?_ ?_
          · rfl
          · first | exact (sSpan_f1 (by assumption)).symm | exact (sSpan_f2 (by assumption)).symm | exact (sSpan_f3 (by assumption)).symm | exact (sSpan_f4 (by assumption)).symm
theorem in_X0_cutLast_0 : ∀ w ∈ wsX00, w ∈ wsX0_cutLast := fun _ h => List.mem_cons_of_mem _ (List.mem_append_right _ h)
set_option maxHeartbeats 4000000 in
set_option maxRecDepth 100000 in
theorem c_X0_cutLast (l : Launch) (D : va_G) (cI cB cO : ClassId) (sz : Nat) (h0 h1 h2 n : Nat) (P : Int32) (F G : Nat → Int32)  (hn : n ≤ 10) : CI l yX0_cutLast wsX0_cutLast ({ frames := 0, cells := 0, slots := 0, locals := 0 } : Room) D (tyL cI cB cO) [.ref h0] [(h0, .inr (0, [.int (nI n), .int P, .ref h1, .ref h2])), (h1, .inl (cI, 50, .inl F)), (h2, .inl (cI, 6, .inl G))] sz (fun (ans : Int32) (u : Ln) => (ans, u) = sCut (n, P, F, G)) (fun (u : Ln) => [(h0, .inr (0, [.int (nI u.1), .int u.2.1, .ref h1, .ref h2])), (h1, .inl (cI, 50, .inl u.2.2.1)), (h2, .inl (cI, 6, .inl u.2.2.2))]) 0 0 := by
  refine ct_of (cc := cX0_cutLast) (maxL := 1) (ret := some .int) (own := RX0) (Qc := QI D (fun (ans : Int32) (u : Ln) => (ans, u) = sCut (n, P, F, G)) (fun (u : Ln) => [(h0, .inr (0, [.int (nI u.1), .int u.2.1, .ref h1, .ref h2])), (h1, .inl (cI, 50, .inl u.2.2.1)), (h2, .inl (cI, 6, .inl u.2.2.2))])) (by decide) rfl rfl (Nat.le_of_ble_eq_true rfl) ?_
  intro pM eM sM mM below meth cM AM ls H locs hx hb hr hts hown hlocks hml hin hK hP hD hS hA hSt hl
  have hl : lv_has ls 1 [(0, .ref h0)] := hl
  refine lv_aload_n hx hb dX0_cutLast_0 rfl (lv_at hl 0 rfl) ?_
  refine va_get (D := D) (ci := 0) (v := .int (nI n)) (C := RX0) (T := TX0) (N := 4) hx hb hts in_X0_cutLast_0 hown hK hP 0 rfl rfl 0 (by decide) (hts (.fieldLink RX0 9 "HoseSpans$Line" "spans" "I") (List.mem_of_getElem? (i := 1) (by decide +kernel))) (fun _ h9 => h9) rfl dX0_cutLast_1 ?_
  refine lv_if_ne (tgt := 10) hx hb dX0_cutLast_4 (by decide) (fun c_1 => ?_) (fun c_1 => ?_)
  · have c_1 : ¬ n = 0 := fun h => c_1 (by rw [h]; rfl)
    refine lv_aload_n hx hb dX0_cutLast_10 rfl (lv_at hl 0 rfl) ?_
    refine lv_dup hx hb dX0_cutLast_11 rfl ?_
    refine va_get (D := D) (ci := 0) (v := .int P) (C := RX0) (T := TX0) (N := 4) hx hb hts in_X0_cutLast_0 hown hK hP 0 rfl rfl 1 (by decide) (hts (.fieldLink RX0 15 "HoseSpans$Line" "pumps" "I") (List.mem_of_getElem? (i := 3) (by decide +kernel))) (fun _ h9 => h9) rfl dX0_cutLast_12 ?_
    refine lv_iconst (v := 1) hx hb dX0_cutLast_15 (by decide) ?_
    refine lv_aload_n hx hb dX0_cutLast_16 rfl (lv_at hl 0 rfl) ?_
    refine va_get (D := D) (ci := 0) (v := .int (nI n)) (C := RX0) (T := TX0) (N := 4) hx hb hts in_X0_cutLast_0 hown hK hP 0 rfl rfl 0 (by decide) (hts (.fieldLink RX0 9 "HoseSpans$Line" "spans" "I") (List.mem_of_getElem? (i := 1) (by decide +kernel))) (fun _ h9 => h9) rfl dX0_cutLast_17 ?_
    refine lv_ishl hx hb dX0_cutLast_20 ?_
    refine lv_iconst (v := -1) hx hb dX0_cutLast_21 (by decide) ?_
    refine lv_ixor hx hb dX0_cutLast_22 ?_
    refine lv_iand hx hb dX0_cutLast_23 ?_
    refine va_put (D := D) (ci := 0) (v := .int (P &&& ((1 <<< ((nI n) &&& 31)) ^^^ (-1)))) (ty := .int) (C := RX0) (T := TX0) (N := 4) hx hb hts in_X0_cutLast_0 tyX0 tyX0_ok nmX0 hown hK hP hD hS 0 rfl rfl 1 (by decide) (hts (.fieldLink RX0 15 "HoseSpans$Line" "pumps" "I") (List.mem_of_getElem? (i := 3) (by decide +kernel))) (fun _ h9 => h9) rfl (by decide +kernel) rfl rfl (Nat.le_of_ble_eq_true rfl) dX0_cutLast_24 (fun H locs hP hD hS => ?_)
    have hP : va_P D vwCl [(h0, .inr (0, [.int (nI n), .int (P &&& ((1 <<< ((nI n) &&& 31)) ^^^ (-1))), .ref h1, .ref h2])), (h1, .inl (cI, 50, .inl F)), (h2, .inl (cI, 6, .inl G))] H := hP
    have hD : va_D AM [(h0, .inr (0, [.int (nI n), .int (P &&& ((1 <<< ((nI n) &&& 31)) ^^^ (-1))), .ref h1, .ref h2])), (h1, .inl (cI, 50, .inl F)), (h2, .inl (cI, 6, .inl G))] := hD
    refine lv_aload_n hx hb dX0_cutLast_27 rfl (lv_at hl 0 rfl) ?_
    refine lv_dup hx hb dX0_cutLast_28 rfl ?_
    refine va_get (D := D) (ci := 0) (v := .int (nI n)) (C := RX0) (T := TX0) (N := 4) hx hb hts in_X0_cutLast_0 hown hK hP 0 rfl rfl 0 (by decide) (hts (.fieldLink RX0 9 "HoseSpans$Line" "spans" "I") (List.mem_of_getElem? (i := 1) (by decide +kernel))) (fun _ h9 => h9) rfl dX0_cutLast_29 ?_
    refine lv_iconst (v := 1) hx hb dX0_cutLast_32 (by decide) ?_
    refine lv_isub hx hb dX0_cutLast_33 ?_
    refine e_n (y := nI (n - 1)) (pk_sub (a := n) (b := 1) (by omega)) ?_
    refine va_put (D := D) (ci := 0) (v := .int (nI (n - 1))) (ty := .int) (C := RX0) (T := TX0) (N := 4) hx hb hts in_X0_cutLast_0 tyX0 tyX0_ok nmX0 hown hK hP hD hS 0 rfl rfl 0 (by decide) (hts (.fieldLink RX0 9 "HoseSpans$Line" "spans" "I") (List.mem_of_getElem? (i := 1) (by decide +kernel))) (fun _ h9 => h9) rfl (by decide +kernel) rfl rfl (Nat.le_of_ble_eq_true rfl) dX0_cutLast_34 (fun H locs hP hD hS => ?_)
    have hP : va_P D vwCl [(h0, .inr (0, [.int (nI (n - 1)), .int (P &&& ((1 <<< ((nI n) &&& 31)) ^^^ (-1))), .ref h1, .ref h2])), (h1, .inl (cI, 50, .inl F)), (h2, .inl (cI, 6, .inl G))] H := hP
    have hD : va_D AM [(h0, .inr (0, [.int (nI (n - 1)), .int (P &&& ((1 <<< ((nI n) &&& 31)) ^^^ (-1))), .ref h1, .ref h2])), (h1, .inl (cI, 50, .inl F)), (h2, .inl (cI, 6, .inl G))] := hD
    refine lv_aload_n hx hb dX0_cutLast_37 rfl (lv_at hl 0 rfl) ?_
    refine va_get (D := D) (ci := 0) (v := .int (nI (n - 1))) (C := RX0) (T := TX0) (N := 4) hx hb hts in_X0_cutLast_0 hown hK hP 0 rfl rfl 0 (by decide) (hts (.fieldLink RX0 9 "HoseSpans$Line" "spans" "I") (List.mem_of_getElem? (i := 1) (by decide +kernel))) (fun _ h9 => h9) rfl dX0_cutLast_38 ?_
    refine e_i (u := (n - 1, P &&& (bitOf (nI n) ^^^ (-1)), F, G)) hx hb hr hlocks hP hD hS dX0_cutLast_41 ?_ ?_
    · rfl
    · exact (sCut_s (by assumption)).symm
  · have c_1 : n = 0 := (nI_eq (b := 0) (by omega) (by decide)).mp c_1
    refine lv_ldc (v := -1000003) hx hb hown (hts (.constant RX0 44 (-1000003)) (List.mem_of_getElem? (i := 2) (by decide +kernel))) dX0_cutLast_7 ?_
    refine e_i (u := (n, P, F, G)) hx hb hr hlocks hP hD hS dX0_cutLast_9 ?_ ?_
    · rfl
    · exact (sCut_0 (by assumption)).symm
theorem in_X0_changeSetting_0 : ∀ w ∈ wsX00, w ∈ wsX0_changeSetting := fun _ h => List.mem_cons_of_mem _ (List.mem_append_right _ h)
set_option maxHeartbeats 4000000 in
set_option maxRecDepth 100000 in
theorem c_X0_changeSetting (l : Launch) (D : va_G) (cI cB cO : ClassId) (sz : Nat) (h0 h1 h2 n : Nat) (P : Int32) (F G : Nat → Int32) (k v : Int32)  : CI l yX0_changeSetting wsX0_changeSetting ({ frames := 1, cells := 0, slots := 0, locals := 22 } : Room) D (tyL cI cB cO) [.ref h0, .int k, .int v] [(h0, .inr (0, [.int (nI n), .int P, .ref h1, .ref h2])), (h1, .inl (cI, 50, .inl F)), (h2, .inl (cI, 6, .inl G))] sz (fun (ans : Int32) (u : Ln) => (ans, u) = sSet (n, P, F, G) k v) (fun (u : Ln) => [(h0, .inr (0, [.int (nI u.1), .int u.2.1, .ref h1, .ref h2])), (h1, .inl (cI, 50, .inl u.2.2.1)), (h2, .inl (cI, 6, .inl u.2.2.2))]) 0 0 := by
  refine ct_of (cc := cX0_changeSetting) (maxL := 4) (ret := some .int) (own := RX0) (Qc := QI D (fun (ans : Int32) (u : Ln) => (ans, u) = sSet (n, P, F, G) k v) (fun (u : Ln) => [(h0, .inr (0, [.int (nI u.1), .int u.2.1, .ref h1, .ref h2])), (h1, .inl (cI, 50, .inl u.2.2.1)), (h2, .inl (cI, 6, .inl u.2.2.2))])) (by decide) rfl rfl (Nat.le_of_ble_eq_true rfl) ?_
  intro pM eM sM mM below meth cM AM ls H locs hx hb hr hts hown hlocks hml hin hK hP hD hS hA hSt hl
  have hl : lv_has ls 4 [(0, .ref h0), (1, .int k), (2, .int v)] := hl
  refine lv_iload_n hx hb dX0_changeSetting_0 rfl (lv_at hl 1 rfl) ?_
  refine lv_iconst (v := 0) hx hb dX0_changeSetting_1 (by decide) ?_
  refine lv_iconst (v := 5) hx hb dX0_changeSetting_2 (by decide) ?_
  refine k_i (va_runSN (As := [.int k, .int 0, .int 5]) (rest := []) ⟨hx, hb, hml, hown, hts⟩ (c_X4_within l D cI cB cO H.size k 0 5 ) ⟨va_cnB 3 hts gX0_changeSetting_X4_within_n34 rfl rfl rfl hSt.1.1 (hts (.initialized RX4) (List.mem_of_getElem? (i := 4) (by decide +kernel))) (by decide +kernel) ⟨Nat.le_of_ble_eq_true rfl, Nat.le_of_ble_eq_true rfl⟩, (hts (.static yX4_within) (List.mem_of_getElem? (i := 3) (by decide +kernel))), trivial⟩ (preS_of hK hP hD hS hA hSt [] (by decide) rfl) rfl rfl hl.1 rfl (lv_room (Nat.le_of_ble_eq_true rfl)) dX0_changeSetting_3 ⟨Nat.le_of_ble_eq_true rfl, Nat.le_of_ble_eq_true rfl⟩) hP hD hS hA [] [0, 1, 2] [0, 1, 2] [(h0, .inr (0, [.int (nI n), .int P, .ref h1, .ref h2])), (h1, .inl (cI, 50, .inl F)), (h2, .inl (cI, 6, .inl G))] (fun (u_1 : Unit) => [(h0, .inr (0, [.int (nI n), .int P, .ref h1, .ref h2])), (h1, .inl (cI, 50, .inl F)), (h2, .inl (cI, 6, .inl G))]) rfl rfl (by decide) (by decide) (by decide) (fun _ => rfl) (fun r_1 u_1 H locs q_1 hP hD hS => ?_)
  obtain rfl : r_1 = bI (inR k 0 5) := q_1
  refine lv_if_eq (tgt := 26) hx hb dX0_changeSetting_6 (by decide) (fun c_2 => ?_) (fun c_2 => ?_)
  · have c_2 := bI_0.mp c_2
    refine lv_ldc (v := -1000002) hx hb hown (hts (.constant RX0 38 (-1000002)) (List.mem_of_getElem? (i := 1) (by decide +kernel))) dX0_changeSetting_26 ?_
    refine e_i (u := (n, P, F, G)) hx hb hr hlocks hP hD hS dX0_changeSetting_28 ?_ ?_
    · rfl
    · first | exact (sSet_f1 (by assumption)).symm | exact (sSet_f2 (by assumption) (by assumption)).symm
  · have c_2 := bI_n0.mp c_2
    obtain ⟨j, hj, rfl⟩ := set_in c_2
    refine lv_iload_n hx hb dX0_changeSetting_9 rfl (lv_at hl 2 rfl) ?_
    obtain ⟨t_3, hZt_3, hTt_3⟩ := hSt.2.2.2.2.1
    refine va_getsN hx hb hZt_3 hS hown (va_Nw.use rfl hSt.1.2.2.2.2.2.2.1) (fun _ h9 => h9) dX0_changeSetting_10 ?_
    refine lv_iload_n hx hb dX0_changeSetting_13 rfl (lv_at hl 1 rfl) ?_
    refine va_ti hx hb hTt_3 hS (v := .int (kLow j)) (vp_in_nI (by omega) (by decide)) (congrArg (fun j => Value.int (kLow j)) (nI_clamp (by omega))) dX0_changeSetting_14 ?_
    obtain ⟨t_4, hZt_4, hTt_4⟩ := hSt.2.2.2.2.2
    refine va_getsN hx hb hZt_4 hS hown (va_Nw.use rfl hSt.1.2.2.2.2.2.2.2.1) (fun _ h9 => h9) dX0_changeSetting_15 ?_
    refine lv_iload_n hx hb dX0_changeSetting_18 rfl (lv_at hl 1 rfl) ?_
    refine va_ti hx hb hTt_4 hS (v := .int (kHigh j)) (vp_in_nI (by omega) (by decide)) (congrArg (fun j => Value.int (kHigh j)) (nI_clamp (by omega))) dX0_changeSetting_19 ?_
    refine k_i (va_runSN (As := [.int v, .int (kLow j), .int (kHigh j)]) (rest := []) ⟨hx, hb, hml, hown, hts⟩ (c_X4_within l D cI cB cO H.size v (kLow j) (kHigh j) ) ⟨va_cnB 3 hts gX0_changeSetting_X4_within_n34 rfl rfl rfl hSt.1.1 (hts (.initialized RX4) (List.mem_of_getElem? (i := 4) (by decide +kernel))) (by decide +kernel) ⟨Nat.le_of_ble_eq_true rfl, Nat.le_of_ble_eq_true rfl⟩, (hts (.static yX4_within) (List.mem_of_getElem? (i := 3) (by decide +kernel))), trivial⟩ (preS_of hK hP hD hS hA hSt [] (by decide) rfl) rfl rfl hl.1 rfl (lv_room (Nat.le_of_ble_eq_true rfl)) dX0_changeSetting_20 ⟨Nat.le_of_ble_eq_true rfl, Nat.le_of_ble_eq_true rfl⟩) hP hD hS hA [] [0, 1, 2] [0, 1, 2] [(h0, .inr (0, [.int (nI n), .int P, .ref h1, .ref h2])), (h1, .inl (cI, 50, .inl F)), (h2, .inl (cI, 6, .inl G))] (fun (u_5 : Unit) => [(h0, .inr (0, [.int (nI n), .int P, .ref h1, .ref h2])), (h1, .inl (cI, 50, .inl F)), (h2, .inl (cI, 6, .inl G))]) rfl rfl (by decide) (by decide) (by decide) (fun _ => rfl) (fun r_5 u_5 H locs q_5 hP hD hS => ?_)
    obtain rfl : r_5 = bI (inR v (kLow j) (kHigh j)) := q_5
    refine lv_if_ne (tgt := 29) hx hb dX0_changeSetting_23 (by decide) (fun c_6 => ?_) (fun c_6 => ?_)
    · have c_6 := bI_n0.mp c_6
      refine lv_aload_n hx hb dX0_changeSetting_29 rfl (lv_at hl 0 rfl) ?_
      refine va_get (D := D) (ci := 0) (v := .ref h2) (C := RX0) (T := TX0) (N := 4) hx hb hts in_X0_changeSetting_0 hown hK hP 0 rfl rfl 3 (by decide) (hts (.fieldLink RX0 22 "HoseSpans$Line" "settings" "[I") (List.mem_of_getElem? (i := 2) (by decide +kernel))) (fun _ h9 => h9) rfl dX0_changeSetting_30 ?_
      refine lv_iload_n hx hb dX0_changeSetting_33 rfl (lv_at hl 1 rfl) ?_
      refine va_iald hx hb hK hP 2 0 rfl rfl (vp_in_nI (by omega) (by decide)) dX0_changeSetting_34 ?_
      refine e_n (y := G j) (congrArg G (nI_clamp (by omega))) ?_
      refine lv_istore_n (lv' := [(3, .int (G j)), (0, .ref h0), (1, .int (nI j)), (2, .int v)]) hx hb dX0_changeSetting_35 rfl hl (by decide) rfl (fun ls hl => ?_)
      refine lv_aload_n hx hb dX0_changeSetting_36 rfl (lv_at hl 1 rfl) ?_
      refine va_get (D := D) (ci := 0) (v := .ref h2) (C := RX0) (T := TX0) (N := 4) hx hb hts in_X0_changeSetting_0 hown hK hP 0 rfl rfl 3 (by decide) (hts (.fieldLink RX0 22 "HoseSpans$Line" "settings" "[I") (List.mem_of_getElem? (i := 2) (by decide +kernel))) (fun _ h9 => h9) rfl dX0_changeSetting_37 ?_
      refine lv_iload_n hx hb dX0_changeSetting_40 rfl (lv_at hl 2 rfl) ?_
      refine lv_iload_n hx hb dX0_changeSetting_41 rfl (lv_at hl 3 rfl) ?_
      refine va_iast hx hb hK hP hD hS 2 0 rfl rfl (vp_in_nI (by omega) (by decide)) dX0_changeSetting_42 (fun H locs hP hD hS => ?_)
      rw [show Int32.toNatClampNeg (nI j) = j from (nI_clamp (by omega))] at hP hD
      have hP : va_P D vwCl [(h0, .inr (0, [.int (nI n), .int P, .ref h1, .ref h2])), (h1, .inl (cI, 50, .inl F)), (h2, .inl (cI, 6, .inl (upd G j v)))] H := hP
      have hD : va_D AM [(h0, .inr (0, [.int (nI n), .int P, .ref h1, .ref h2])), (h1, .inl (cI, 50, .inl F)), (h2, .inl (cI, 6, .inl (upd G j v)))] := hD
      refine lv_iload_n hx hb dX0_changeSetting_43 rfl (lv_at hl 0 rfl) ?_
      refine e_i (u := (n, P, F, upd G j v)) hx hb hr hlocks hP hD hS dX0_changeSetting_44 ?_ ?_
      · rfl
      · exact (sSet_ok (by assumption) (by assumption) (by assumption)).symm
    · have c_6 := bI_0.mp c_6
      refine lv_ldc (v := -1000002) hx hb hown (hts (.constant RX0 38 (-1000002)) (List.mem_of_getElem? (i := 1) (by decide +kernel))) dX0_changeSetting_26 ?_
      refine e_i (u := (n, P, F, G)) hx hb hr hlocks hP hD hS dX0_changeSetting_28 ?_ ?_
      · rfl
      · first | exact (sSet_f1 (by assumption)).symm | exact (sSet_f2 (by assumption) (by assumption)).symm
set_option maxHeartbeats 4000000 in
set_option maxRecDepth 100000 in
theorem c_J6_bitCount_0f7a4 (l : Launch) (D : va_G) (cI cB cO : ClassId) (sz : Nat) (x : Int32) (hp : okPumps x) : CI l yJ6_bitCount_0f7a4 wsJ6_bitCount_0f7a4 ({ frames := 0, cells := 0, slots := 0, locals := 0 } : Room) D (tyL cI cB cO) [.int x] [] sz (fun (r : Int32) (_ : Unit) => r = bcI x) (fun (u : Unit) => []) 0 0 := by
  refine ct_of (cc := cJ6_bitCount_0f7a4) (maxL := 1) (ret := some .int) (own := RJ6) (Qc := QI D (fun (r : Int32) (_ : Unit) => r = bcI x) (fun (u : Unit) => [])) (by decide) rfl rfl (Nat.le_of_ble_eq_true rfl) ?_
  intro pM eM sM mM below meth cM AM ls H locs hx hb hr hts hown hlocks hml hin hK hP hD hS hA hSt hl
  have hl : lv_has ls 1 [(0, .int x)] := hl
  refine lv_iload_n hx hb dJ6_bitCount_0f7a4_0 rfl (lv_at hl 0 rfl) ?_
  refine lv_iload_n hx hb dJ6_bitCount_0f7a4_1 rfl (lv_at hl 0 rfl) ?_
  refine lv_iconst (v := 1) hx hb dJ6_bitCount_0f7a4_2 (by decide) ?_
  refine lv_iushr (v := (Int32.toUInt32 x >>> (Int32.toUInt32 1 &&& Int32.toUInt32 31)).toInt32) hx hb dJ6_bitCount_0f7a4_3 rfl ?_
  refine lv_ldcw (v := 1431655765) hx hb hown (hts (.constant RJ6 265 1431655765) (List.mem_of_getElem? (i := 1) (by decide +kernel))) dJ6_bitCount_0f7a4_4 ?_
  refine lv_iand hx hb dJ6_bitCount_0f7a4_7 ?_
  refine lv_isub hx hb dJ6_bitCount_0f7a4_8 ?_
  refine lv_istore_n (lv' := [(0, .int (x - (((Int32.toUInt32 x >>> (Int32.toUInt32 1 &&& Int32.toUInt32 31)).toInt32) &&& 1431655765)))]) hx hb dJ6_bitCount_0f7a4_9 rfl hl (by decide) rfl (fun ls hl => ?_)
  refine lv_iload_n hx hb dJ6_bitCount_0f7a4_10 rfl (lv_at hl 0 rfl) ?_
  refine lv_ldcw (v := 858993459) hx hb hown (hts (.constant RJ6 266 858993459) (List.mem_of_getElem? (i := 2) (by decide +kernel))) dJ6_bitCount_0f7a4_11 ?_
  refine lv_iand hx hb dJ6_bitCount_0f7a4_14 ?_
  refine lv_iload_n hx hb dJ6_bitCount_0f7a4_15 rfl (lv_at hl 0 rfl) ?_
  refine lv_iconst (v := 2) hx hb dJ6_bitCount_0f7a4_16 (by decide) ?_
  refine lv_iushr (v := (Int32.toUInt32 (x - (((Int32.toUInt32 x >>> (Int32.toUInt32 1 &&& Int32.toUInt32 31)).toInt32) &&& 1431655765)) >>> (Int32.toUInt32 2 &&& Int32.toUInt32 31)).toInt32) hx hb dJ6_bitCount_0f7a4_17 rfl ?_
  refine lv_ldcw (v := 858993459) hx hb hown (hts (.constant RJ6 266 858993459) (List.mem_of_getElem? (i := 2) (by decide +kernel))) dJ6_bitCount_0f7a4_18 ?_
  refine lv_iand hx hb dJ6_bitCount_0f7a4_21 ?_
  refine lv_iadd hx hb dJ6_bitCount_0f7a4_22 ?_
  refine lv_istore_n (lv' := [(0, .int (((x - (((Int32.toUInt32 x >>> (Int32.toUInt32 1 &&& Int32.toUInt32 31)).toInt32) &&& 1431655765)) &&& 858993459) + (((Int32.toUInt32 (x - (((Int32.toUInt32 x >>> (Int32.toUInt32 1 &&& Int32.toUInt32 31)).toInt32) &&& 1431655765)) >>> (Int32.toUInt32 2 &&& Int32.toUInt32 31)).toInt32) &&& 858993459)))]) hx hb dJ6_bitCount_0f7a4_23 rfl hl (by decide) rfl (fun ls hl => ?_)
  refine lv_iload_n hx hb dJ6_bitCount_0f7a4_24 rfl (lv_at hl 0 rfl) ?_
  refine lv_iload_n hx hb dJ6_bitCount_0f7a4_25 rfl (lv_at hl 0 rfl) ?_
  refine lv_iconst (v := 4) hx hb dJ6_bitCount_0f7a4_26 (by decide) ?_
  refine lv_iushr (v := (Int32.toUInt32 (((x - (((Int32.toUInt32 x >>> (Int32.toUInt32 1 &&& Int32.toUInt32 31)).toInt32) &&& 1431655765)) &&& 858993459) + (((Int32.toUInt32 (x - (((Int32.toUInt32 x >>> (Int32.toUInt32 1 &&& Int32.toUInt32 31)).toInt32) &&& 1431655765)) >>> (Int32.toUInt32 2 &&& Int32.toUInt32 31)).toInt32) &&& 858993459)) >>> (Int32.toUInt32 4 &&& Int32.toUInt32 31)).toInt32) hx hb dJ6_bitCount_0f7a4_27 rfl ?_
  refine lv_iadd hx hb dJ6_bitCount_0f7a4_28 ?_
  refine lv_ldcw (v := 252645135) hx hb hown (hts (.constant RJ6 267 252645135) (List.mem_of_getElem? (i := 3) (by decide +kernel))) dJ6_bitCount_0f7a4_29 ?_
  refine lv_iand hx hb dJ6_bitCount_0f7a4_32 ?_
  refine lv_istore_n (lv' := [(0, .int (((((x - (((Int32.toUInt32 x >>> (Int32.toUInt32 1 &&& Int32.toUInt32 31)).toInt32) &&& 1431655765)) &&& 858993459) + (((Int32.toUInt32 (x - (((Int32.toUInt32 x >>> (Int32.toUInt32 1 &&& Int32.toUInt32 31)).toInt32) &&& 1431655765)) >>> (Int32.toUInt32 2 &&& Int32.toUInt32 31)).toInt32) &&& 858993459)) + ((Int32.toUInt32 (((x - (((Int32.toUInt32 x >>> (Int32.toUInt32 1 &&& Int32.toUInt32 31)).toInt32) &&& 1431655765)) &&& 858993459) + (((Int32.toUInt32 (x - (((Int32.toUInt32 x >>> (Int32.toUInt32 1 &&& Int32.toUInt32 31)).toInt32) &&& 1431655765)) >>> (Int32.toUInt32 2 &&& Int32.toUInt32 31)).toInt32) &&& 858993459)) >>> (Int32.toUInt32 4 &&& Int32.toUInt32 31)).toInt32)) &&& 252645135))]) hx hb dJ6_bitCount_0f7a4_33 rfl hl (by decide) rfl (fun ls hl => ?_)
  refine lv_iload_n hx hb dJ6_bitCount_0f7a4_34 rfl (lv_at hl 0 rfl) ?_
  refine lv_iload_n hx hb dJ6_bitCount_0f7a4_35 rfl (lv_at hl 0 rfl) ?_
  refine lv_bipush (v := 8) hx hb dJ6_bitCount_0f7a4_36 (by decide) ?_
  refine lv_iushr (v := (Int32.toUInt32 (((((x - (((Int32.toUInt32 x >>> (Int32.toUInt32 1 &&& Int32.toUInt32 31)).toInt32) &&& 1431655765)) &&& 858993459) + (((Int32.toUInt32 (x - (((Int32.toUInt32 x >>> (Int32.toUInt32 1 &&& Int32.toUInt32 31)).toInt32) &&& 1431655765)) >>> (Int32.toUInt32 2 &&& Int32.toUInt32 31)).toInt32) &&& 858993459)) + ((Int32.toUInt32 (((x - (((Int32.toUInt32 x >>> (Int32.toUInt32 1 &&& Int32.toUInt32 31)).toInt32) &&& 1431655765)) &&& 858993459) + (((Int32.toUInt32 (x - (((Int32.toUInt32 x >>> (Int32.toUInt32 1 &&& Int32.toUInt32 31)).toInt32) &&& 1431655765)) >>> (Int32.toUInt32 2 &&& Int32.toUInt32 31)).toInt32) &&& 858993459)) >>> (Int32.toUInt32 4 &&& Int32.toUInt32 31)).toInt32)) &&& 252645135) >>> (Int32.toUInt32 8 &&& Int32.toUInt32 31)).toInt32) hx hb dJ6_bitCount_0f7a4_38 rfl ?_
  refine lv_iadd hx hb dJ6_bitCount_0f7a4_39 ?_
  refine lv_istore_n (lv' := [(0, .int ((((((x - (((Int32.toUInt32 x >>> (Int32.toUInt32 1 &&& Int32.toUInt32 31)).toInt32) &&& 1431655765)) &&& 858993459) + (((Int32.toUInt32 (x - (((Int32.toUInt32 x >>> (Int32.toUInt32 1 &&& Int32.toUInt32 31)).toInt32) &&& 1431655765)) >>> (Int32.toUInt32 2 &&& Int32.toUInt32 31)).toInt32) &&& 858993459)) + ((Int32.toUInt32 (((x - (((Int32.toUInt32 x >>> (Int32.toUInt32 1 &&& Int32.toUInt32 31)).toInt32) &&& 1431655765)) &&& 858993459) + (((Int32.toUInt32 (x - (((Int32.toUInt32 x >>> (Int32.toUInt32 1 &&& Int32.toUInt32 31)).toInt32) &&& 1431655765)) >>> (Int32.toUInt32 2 &&& Int32.toUInt32 31)).toInt32) &&& 858993459)) >>> (Int32.toUInt32 4 &&& Int32.toUInt32 31)).toInt32)) &&& 252645135) + ((Int32.toUInt32 (((((x - (((Int32.toUInt32 x >>> (Int32.toUInt32 1 &&& Int32.toUInt32 31)).toInt32) &&& 1431655765)) &&& 858993459) + (((Int32.toUInt32 (x - (((Int32.toUInt32 x >>> (Int32.toUInt32 1 &&& Int32.toUInt32 31)).toInt32) &&& 1431655765)) >>> (Int32.toUInt32 2 &&& Int32.toUInt32 31)).toInt32) &&& 858993459)) + ((Int32.toUInt32 (((x - (((Int32.toUInt32 x >>> (Int32.toUInt32 1 &&& Int32.toUInt32 31)).toInt32) &&& 1431655765)) &&& 858993459) + (((Int32.toUInt32 (x - (((Int32.toUInt32 x >>> (Int32.toUInt32 1 &&& Int32.toUInt32 31)).toInt32) &&& 1431655765)) >>> (Int32.toUInt32 2 &&& Int32.toUInt32 31)).toInt32) &&& 858993459)) >>> (Int32.toUInt32 4 &&& Int32.toUInt32 31)).toInt32)) &&& 252645135) >>> (Int32.toUInt32 8 &&& Int32.toUInt32 31)).toInt32)))]) hx hb dJ6_bitCount_0f7a4_40 rfl hl (by decide) rfl (fun ls hl => ?_)
  refine lv_iload_n hx hb dJ6_bitCount_0f7a4_41 rfl (lv_at hl 0 rfl) ?_
  refine lv_iload_n hx hb dJ6_bitCount_0f7a4_42 rfl (lv_at hl 0 rfl) ?_
  refine lv_bipush (v := 16) hx hb dJ6_bitCount_0f7a4_43 (by decide) ?_
  refine lv_iushr (v := (Int32.toUInt32 ((((((x - (((Int32.toUInt32 x >>> (Int32.toUInt32 1 &&& Int32.toUInt32 31)).toInt32) &&& 1431655765)) &&& 858993459) + (((Int32.toUInt32 (x - (((Int32.toUInt32 x >>> (Int32.toUInt32 1 &&& Int32.toUInt32 31)).toInt32) &&& 1431655765)) >>> (Int32.toUInt32 2 &&& Int32.toUInt32 31)).toInt32) &&& 858993459)) + ((Int32.toUInt32 (((x - (((Int32.toUInt32 x >>> (Int32.toUInt32 1 &&& Int32.toUInt32 31)).toInt32) &&& 1431655765)) &&& 858993459) + (((Int32.toUInt32 (x - (((Int32.toUInt32 x >>> (Int32.toUInt32 1 &&& Int32.toUInt32 31)).toInt32) &&& 1431655765)) >>> (Int32.toUInt32 2 &&& Int32.toUInt32 31)).toInt32) &&& 858993459)) >>> (Int32.toUInt32 4 &&& Int32.toUInt32 31)).toInt32)) &&& 252645135) + ((Int32.toUInt32 (((((x - (((Int32.toUInt32 x >>> (Int32.toUInt32 1 &&& Int32.toUInt32 31)).toInt32) &&& 1431655765)) &&& 858993459) + (((Int32.toUInt32 (x - (((Int32.toUInt32 x >>> (Int32.toUInt32 1 &&& Int32.toUInt32 31)).toInt32) &&& 1431655765)) >>> (Int32.toUInt32 2 &&& Int32.toUInt32 31)).toInt32) &&& 858993459)) + ((Int32.toUInt32 (((x - (((Int32.toUInt32 x >>> (Int32.toUInt32 1 &&& Int32.toUInt32 31)).toInt32) &&& 1431655765)) &&& 858993459) + (((Int32.toUInt32 (x - (((Int32.toUInt32 x >>> (Int32.toUInt32 1 &&& Int32.toUInt32 31)).toInt32) &&& 1431655765)) >>> (Int32.toUInt32 2 &&& Int32.toUInt32 31)).toInt32) &&& 858993459)) >>> (Int32.toUInt32 4 &&& Int32.toUInt32 31)).toInt32)) &&& 252645135) >>> (Int32.toUInt32 8 &&& Int32.toUInt32 31)).toInt32)) >>> (Int32.toUInt32 16 &&& Int32.toUInt32 31)).toInt32) hx hb dJ6_bitCount_0f7a4_45 rfl ?_
  refine lv_iadd hx hb dJ6_bitCount_0f7a4_46 ?_
  refine lv_istore_n (lv' := [(0, .int (((((((x - (((Int32.toUInt32 x >>> (Int32.toUInt32 1 &&& Int32.toUInt32 31)).toInt32) &&& 1431655765)) &&& 858993459) + (((Int32.toUInt32 (x - (((Int32.toUInt32 x >>> (Int32.toUInt32 1 &&& Int32.toUInt32 31)).toInt32) &&& 1431655765)) >>> (Int32.toUInt32 2 &&& Int32.toUInt32 31)).toInt32) &&& 858993459)) + ((Int32.toUInt32 (((x - (((Int32.toUInt32 x >>> (Int32.toUInt32 1 &&& Int32.toUInt32 31)).toInt32) &&& 1431655765)) &&& 858993459) + (((Int32.toUInt32 (x - (((Int32.toUInt32 x >>> (Int32.toUInt32 1 &&& Int32.toUInt32 31)).toInt32) &&& 1431655765)) >>> (Int32.toUInt32 2 &&& Int32.toUInt32 31)).toInt32) &&& 858993459)) >>> (Int32.toUInt32 4 &&& Int32.toUInt32 31)).toInt32)) &&& 252645135) + ((Int32.toUInt32 (((((x - (((Int32.toUInt32 x >>> (Int32.toUInt32 1 &&& Int32.toUInt32 31)).toInt32) &&& 1431655765)) &&& 858993459) + (((Int32.toUInt32 (x - (((Int32.toUInt32 x >>> (Int32.toUInt32 1 &&& Int32.toUInt32 31)).toInt32) &&& 1431655765)) >>> (Int32.toUInt32 2 &&& Int32.toUInt32 31)).toInt32) &&& 858993459)) + ((Int32.toUInt32 (((x - (((Int32.toUInt32 x >>> (Int32.toUInt32 1 &&& Int32.toUInt32 31)).toInt32) &&& 1431655765)) &&& 858993459) + (((Int32.toUInt32 (x - (((Int32.toUInt32 x >>> (Int32.toUInt32 1 &&& Int32.toUInt32 31)).toInt32) &&& 1431655765)) >>> (Int32.toUInt32 2 &&& Int32.toUInt32 31)).toInt32) &&& 858993459)) >>> (Int32.toUInt32 4 &&& Int32.toUInt32 31)).toInt32)) &&& 252645135) >>> (Int32.toUInt32 8 &&& Int32.toUInt32 31)).toInt32)) + ((Int32.toUInt32 ((((((x - (((Int32.toUInt32 x >>> (Int32.toUInt32 1 &&& Int32.toUInt32 31)).toInt32) &&& 1431655765)) &&& 858993459) + (((Int32.toUInt32 (x - (((Int32.toUInt32 x >>> (Int32.toUInt32 1 &&& Int32.toUInt32 31)).toInt32) &&& 1431655765)) >>> (Int32.toUInt32 2 &&& Int32.toUInt32 31)).toInt32) &&& 858993459)) + ((Int32.toUInt32 (((x - (((Int32.toUInt32 x >>> (Int32.toUInt32 1 &&& Int32.toUInt32 31)).toInt32) &&& 1431655765)) &&& 858993459) + (((Int32.toUInt32 (x - (((Int32.toUInt32 x >>> (Int32.toUInt32 1 &&& Int32.toUInt32 31)).toInt32) &&& 1431655765)) >>> (Int32.toUInt32 2 &&& Int32.toUInt32 31)).toInt32) &&& 858993459)) >>> (Int32.toUInt32 4 &&& Int32.toUInt32 31)).toInt32)) &&& 252645135) + ((Int32.toUInt32 (((((x - (((Int32.toUInt32 x >>> (Int32.toUInt32 1 &&& Int32.toUInt32 31)).toInt32) &&& 1431655765)) &&& 858993459) + (((Int32.toUInt32 (x - (((Int32.toUInt32 x >>> (Int32.toUInt32 1 &&& Int32.toUInt32 31)).toInt32) &&& 1431655765)) >>> (Int32.toUInt32 2 &&& Int32.toUInt32 31)).toInt32) &&& 858993459)) + ((Int32.toUInt32 (((x - (((Int32.toUInt32 x >>> (Int32.toUInt32 1 &&& Int32.toUInt32 31)).toInt32) &&& 1431655765)) &&& 858993459) + (((Int32.toUInt32 (x - (((Int32.toUInt32 x >>> (Int32.toUInt32 1 &&& Int32.toUInt32 31)).toInt32) &&& 1431655765)) >>> (Int32.toUInt32 2 &&& Int32.toUInt32 31)).toInt32) &&& 858993459)) >>> (Int32.toUInt32 4 &&& Int32.toUInt32 31)).toInt32)) &&& 252645135) >>> (Int32.toUInt32 8 &&& Int32.toUInt32 31)).toInt32)) >>> (Int32.toUInt32 16 &&& Int32.toUInt32 31)).toInt32)))]) hx hb dJ6_bitCount_0f7a4_47 rfl hl (by decide) rfl (fun ls hl => ?_)
  refine lv_iload_n hx hb dJ6_bitCount_0f7a4_48 rfl (lv_at hl 0 rfl) ?_
  refine lv_bipush (v := 63) hx hb dJ6_bitCount_0f7a4_49 (by decide) ?_
  refine lv_iand hx hb dJ6_bitCount_0f7a4_51 ?_
  refine e_i (u := ()) hx hb hr hlocks hP hD hS dJ6_bitCount_0f7a4_52 ?_ ?_
  · rfl
  · exact bc_eq hp
theorem in_X0_turnPump_0 : ∀ w ∈ wsX00, w ∈ wsX0_turnPump := fun _ h => List.mem_cons_of_mem _ (List.mem_append_right _ h)
set_option maxHeartbeats 4000000 in
set_option maxRecDepth 100000 in
theorem c_X0_turnPump (l : Launch) (D : va_G) (cI cB cO : ClassId) (sz : Nat) (h0 h1 h2 n : Nat) (P : Int32) (F G : Nat → Int32) (i : Int32) (hn : n ≤ 10) (hp : okPumps P) : CI l yX0_turnPump wsX0_turnPump ({ frames := 2, cells := 0, slots := 0, locals := 43 } : Room) D (tyL cI cB cO) [.ref h0, .int i] [(h0, .inr (0, [.int (nI n), .int P, .ref h1, .ref h2])), (h1, .inl (cI, 50, .inl F)), (h2, .inl (cI, 6, .inl G))] sz (fun (ans : Int32) (u : Ln) => (ans, u) = sPump (n, P, F, G) i) (fun (u : Ln) => [(h0, .inr (0, [.int (nI u.1), .int u.2.1, .ref h1, .ref h2])), (h1, .inl (cI, 50, .inl u.2.2.1)), (h2, .inl (cI, 6, .inl u.2.2.2))]) 0 0 := by
  refine ct_of (cc := cX0_turnPump) (maxL := 2) (ret := some .int) (own := RX0) (Qc := QI D (fun (ans : Int32) (u : Ln) => (ans, u) = sPump (n, P, F, G) i) (fun (u : Ln) => [(h0, .inr (0, [.int (nI u.1), .int u.2.1, .ref h1, .ref h2])), (h1, .inl (cI, 50, .inl u.2.2.1)), (h2, .inl (cI, 6, .inl u.2.2.2))])) (by decide) rfl rfl (Nat.le_of_ble_eq_true rfl) ?_
  intro pM eM sM mM below meth cM AM ls H locs hx hb hr hts hown hlocks hml hin hK hP hD hS hA hSt hl
  have hl : lv_has ls 2 [(0, .ref h0), (1, .int i)] := hl
  refine lv_aload_n hx hb dX0_turnPump_0 rfl (lv_at hl 0 rfl) ?_
  refine lv_iload_n hx hb dX0_turnPump_1 rfl (lv_at hl 1 rfl) ?_
  refine k_i (va_runV (As := [.int i]) (rest := []) ⟨hx, hb, hml, hown, hts⟩ (c_X0_hasNode l D cI cB cO H.size h0 h1 h2 n P i ) (cwV 1 hts gX0_turnPump_X0_hasNode rfl rfl rfl (by decide +kernel) ⟨Nat.le_of_ble_eq_true rfl, Nat.le_of_ble_eq_true rfl⟩) (preV_of hK hP hD hS hA hSt [0] (by decide) rfl 0 (ci := 0) rfl rfl) rfl rfl hl.1 rfl (lv_room (Nat.le_of_ble_eq_true rfl)) dX0_turnPump_2 ⟨Nat.le_of_ble_eq_true rfl, Nat.le_of_ble_eq_true rfl⟩) hP hD hS hA [0] [1, 2] [2, 0, 1] [(h1, .inl (cI, 50, .inl F)), (h2, .inl (cI, 6, .inl G))] (fun (u_1 : Unit) => [(h0, .inr (0, [.int (nI n), .int P, .ref h1, .ref h2])), (h1, .inl (cI, 50, .inl F)), (h2, .inl (cI, 6, .inl G))]) rfl rfl (by decide) (by decide) (by decide) (fun _ => rfl) (fun r_1 u_1 H locs q_1 hP hD hS => ?_)
  obtain rfl : r_1 = bI (inR i 0 (nI n)) := q_1
  refine lv_if_ne (tgt := 11) hx hb dX0_turnPump_5 (by decide) (fun c_2 => ?_) (fun c_2 => ?_)
  · have c_2 := bI_n0.mp c_2
    obtain ⟨j, hj, rfl⟩ := node_in hn c_2
    refine lv_aload_n hx hb dX0_turnPump_11 rfl (lv_at hl 0 rfl) ?_
    refine lv_dup hx hb dX0_turnPump_12 rfl ?_
    refine va_get (D := D) (ci := 0) (v := .int P) (C := RX0) (T := TX0) (N := 4) hx hb hts in_X0_turnPump_0 hown hK hP 0 rfl rfl 1 (by decide) (hts (.fieldLink RX0 15 "HoseSpans$Line" "pumps" "I") (List.mem_of_getElem? (i := 2) (by decide +kernel))) (fun _ h9 => h9) rfl dX0_turnPump_13 ?_
    refine lv_iconst (v := 1) hx hb dX0_turnPump_16 (by decide) ?_
    refine lv_iload_n hx hb dX0_turnPump_17 rfl (lv_at hl 1 rfl) ?_
    refine lv_ishl hx hb dX0_turnPump_18 ?_
    refine lv_ixor hx hb dX0_turnPump_19 ?_
    refine va_put (D := D) (ci := 0) (v := .int (P ^^^ (1 <<< ((nI j) &&& 31)))) (ty := .int) (C := RX0) (T := TX0) (N := 4) hx hb hts in_X0_turnPump_0 tyX0 tyX0_ok nmX0 hown hK hP hD hS 0 rfl rfl 1 (by decide) (hts (.fieldLink RX0 15 "HoseSpans$Line" "pumps" "I") (List.mem_of_getElem? (i := 2) (by decide +kernel))) (fun _ h9 => h9) rfl (by decide +kernel) rfl rfl (Nat.le_of_ble_eq_true rfl) dX0_turnPump_20 (fun H locs hP hD hS => ?_)
    have hP : va_P D vwCl [(h0, .inr (0, [.int (nI n), .int (P ^^^ (1 <<< ((nI j) &&& 31))), .ref h1, .ref h2])), (h1, .inl (cI, 50, .inl F)), (h2, .inl (cI, 6, .inl G))] H := hP
    have hD : va_D AM [(h0, .inr (0, [.int (nI n), .int (P ^^^ (1 <<< ((nI j) &&& 31))), .ref h1, .ref h2])), (h1, .inl (cI, 50, .inl F)), (h2, .inl (cI, 6, .inl G))] := hD
    refine lv_aload_n hx hb dX0_turnPump_23 rfl (lv_at hl 0 rfl) ?_
    refine va_get (D := D) (ci := 0) (v := .int (P ^^^ (1 <<< ((nI j) &&& 31)))) (C := RX0) (T := TX0) (N := 4) hx hb hts in_X0_turnPump_0 hown hK hP 0 rfl rfl 1 (by decide) (hts (.fieldLink RX0 15 "HoseSpans$Line" "pumps" "I") (List.mem_of_getElem? (i := 2) (by decide +kernel))) (fun _ h9 => h9) rfl dX0_turnPump_24 ?_
    refine k_i (va_runS (As := [.int (P ^^^ (1 <<< ((nI j) &&& 31)))]) (rest := []) ⟨hx, hb, hml, hown, hts⟩ (c_J6_bitCount_0f7a4 l D cI cB cO H.size (P ^^^ (1 <<< ((nI j) &&& 31))) (by exact hp.xor (by omega))) (va_cwS 1 hts gX0_turnPump_J6_bitCount_0f7a4 rfl rfl rfl (by decide +kernel) ⟨Nat.le_of_ble_eq_true rfl, Nat.le_of_ble_eq_true rfl⟩) (preS_of hK hP hD hS hA hSt [] (by decide) rfl) rfl rfl hl.1 rfl (lv_room (Nat.le_of_ble_eq_true rfl)) dX0_turnPump_27 ⟨Nat.le_of_ble_eq_true rfl, Nat.le_of_ble_eq_true rfl⟩) hP hD hS hA [] [0, 1, 2] [0, 1, 2] [(h0, .inr (0, [.int (nI n), .int (P ^^^ (1 <<< ((nI j) &&& 31))), .ref h1, .ref h2])), (h1, .inl (cI, 50, .inl F)), (h2, .inl (cI, 6, .inl G))] (fun (u_3 : Unit) => [(h0, .inr (0, [.int (nI n), .int (P ^^^ (1 <<< ((nI j) &&& 31))), .ref h1, .ref h2])), (h1, .inl (cI, 50, .inl F)), (h2, .inl (cI, 6, .inl G))]) rfl rfl (by decide) (by decide) (by decide) (fun _ => rfl) (fun r_3 u_3 H locs q_3 hP hD hS => ?_)
    obtain rfl : r_3 = bcI (P ^^^ (1 <<< ((nI j) &&& 31))) := q_3
    refine e_i (u := (n, P ^^^ bitOf (nI j), F, G)) hx hb hr hlocks hP hD hS dX0_turnPump_30 ?_ ?_
    · rfl
    · exact (sPump_ok (by assumption)).symm
  · have c_2 := bI_0.mp c_2
    refine lv_ldc (v := -1000002) hx hb hown (hts (.constant RX0 38 (-1000002)) (List.mem_of_getElem? (i := 1) (by decide +kernel))) dX0_turnPump_8 ?_
    refine e_i (u := (n, P, F, G)) hx hb hr hlocks hP hD hS dX0_turnPump_10 ?_ ?_
    · rfl
    · exact (sPump_f (by assumption)).symm
set_option maxHeartbeats 4000000 in
set_option maxRecDepth 100000 in
theorem c_X0_burstSpan (l : Launch) (D : va_G) (cI cB cO : ClassId) (sz : Nat) (h0 h1 h2 n : Nat) (P : Int32) (F G : Nat → Int32) (i : Int32) (hn : n ≤ 10) : CI l yX0_burstSpan wsX0_burstSpan ({ frames := 2, cells := 0, slots := 0, locals := 43 } : Room) D (tyL cI cB cO) [.ref h0, .int i] [(h0, .inr (0, [.int (nI n), .int P, .ref h1, .ref h2])), (h1, .inl (cI, 50, .inl F)), (h2, .inl (cI, 6, .inl G))] sz (fun (ans : Int32) (u : Ln) => (ans, u) = sBurst (n, P, F, G) i) (fun (u : Ln) => [(h0, .inr (0, [.int (nI u.1), .int u.2.1, .ref h1, .ref h2])), (h1, .inl (cI, 50, .inl u.2.2.1)), (h2, .inl (cI, 6, .inl u.2.2.2))]) 0 0 := by
  refine ct_of (cc := cX0_burstSpan) (maxL := 3) (ret := some .int) (own := RX0) (Qc := QI D (fun (ans : Int32) (u : Ln) => (ans, u) = sBurst (n, P, F, G) i) (fun (u : Ln) => [(h0, .inr (0, [.int (nI u.1), .int u.2.1, .ref h1, .ref h2])), (h1, .inl (cI, 50, .inl u.2.2.1)), (h2, .inl (cI, 6, .inl u.2.2.2))])) (by decide) rfl rfl (Nat.le_of_ble_eq_true rfl) ?_
  intro pM eM sM mM below meth cM AM ls H locs hx hb hr hts hown hlocks hml hin hK hP hD hS hA hSt hl
  have hl : lv_has ls 3 [(0, .ref h0), (1, .int i)] := hl
  refine lv_aload_n hx hb dX0_burstSpan_0 rfl (lv_at hl 0 rfl) ?_
  refine lv_iload_n hx hb dX0_burstSpan_1 rfl (lv_at hl 1 rfl) ?_
  refine k_i (va_runV (As := [.int i]) (rest := []) ⟨hx, hb, hml, hown, hts⟩ (c_X0_hasSpan l D cI cB cO H.size h0 h1 h2 n P i ) (cwV 1 hts gX0_burstSpan_X0_hasSpan rfl rfl rfl (by decide +kernel) ⟨Nat.le_of_ble_eq_true rfl, Nat.le_of_ble_eq_true rfl⟩) (preV_of hK hP hD hS hA hSt [0] (by decide) rfl 0 (ci := 0) rfl rfl) rfl rfl hl.1 rfl (lv_room (Nat.le_of_ble_eq_true rfl)) dX0_burstSpan_2 ⟨Nat.le_of_ble_eq_true rfl, Nat.le_of_ble_eq_true rfl⟩) hP hD hS hA [0] [1, 2] [2, 0, 1] [(h1, .inl (cI, 50, .inl F)), (h2, .inl (cI, 6, .inl G))] (fun (u_1 : Unit) => [(h0, .inr (0, [.int (nI n), .int P, .ref h1, .ref h2])), (h1, .inl (cI, 50, .inl F)), (h2, .inl (cI, 6, .inl G))]) rfl rfl (by decide) (by decide) (by decide) (fun _ => rfl) (fun r_1 u_1 H locs q_1 hP hD hS => ?_)
  obtain rfl : r_1 = bI (inR i 0 (nI n - 1)) := q_1
  refine lv_if_ne (tgt := 11) hx hb dX0_burstSpan_5 (by decide) (fun c_2 => ?_) (fun c_2 => ?_)
  · have c_2 := bI_n0.mp c_2
    obtain ⟨j, hj, rfl⟩ := span_in hn c_2
    refine lv_iconst (v := 1) hx hb dX0_burstSpan_11 (by decide) ?_
    refine lv_aload_n hx hb dX0_burstSpan_12 rfl (lv_at hl 0 rfl) ?_
    refine lv_iload_n hx hb dX0_burstSpan_13 rfl (lv_at hl 1 rfl) ?_
    refine lv_iconst (v := 4) hx hb dX0_burstSpan_14 (by decide) ?_
    refine k_i (va_runV (As := [.int (nI j), .int (nI 4)]) (rest := [.int 1]) ⟨hx, hb, hml, hown, hts⟩ (c_X0_fact l D cI cB cO H.size h0 h1 h2 n P F j 4 (by first | assumption | omega)) (cwV 2 hts gX0_burstSpan_X0_fact rfl rfl rfl (by decide +kernel) ⟨Nat.le_of_ble_eq_true rfl, Nat.le_of_ble_eq_true rfl⟩) (preV_of hK hP hD hS hA hSt [0, 1] (by decide) rfl 0 (ci := 0) rfl rfl) rfl rfl hl.1 rfl (lv_room (Nat.le_of_ble_eq_true rfl)) dX0_burstSpan_15 ⟨Nat.le_of_ble_eq_true rfl, Nat.le_of_ble_eq_true rfl⟩) hP hD hS hA [0, 1] [2] [1, 2, 0] [(h2, .inl (cI, 6, .inl G))] (fun (u_3 : Unit) => [(h0, .inr (0, [.int (nI n), .int P, .ref h1, .ref h2])), (h1, .inl (cI, 50, .inl F)), (h2, .inl (cI, 6, .inl G))]) rfl rfl (by decide) (by decide) (by decide) (fun _ => rfl) (fun r_3 u_3 H locs q_3 hP hD hS => ?_)
    obtain rfl : r_3 = F (j * 5 + 4) := q_3
    refine lv_isub hx hb dX0_burstSpan_18 ?_
    refine lv_istore_n (lv' := [(2, .int (1 - (F (j * 5 + 4)))), (0, .ref h0), (1, .int (nI j))]) hx hb dX0_burstSpan_19 rfl hl (by decide) rfl (fun ls hl => ?_)
    refine lv_aload_n hx hb dX0_burstSpan_20 rfl (lv_at hl 1 rfl) ?_
    refine lv_iload_n hx hb dX0_burstSpan_21 rfl (lv_at hl 2 rfl) ?_
    refine lv_iconst (v := 4) hx hb dX0_burstSpan_22 (by decide) ?_
    refine lv_iconst (v := 1) hx hb dX0_burstSpan_23 (by decide) ?_
    refine k_v (va_runV (As := [.int (nI j), .int (nI 4), .int 1]) (rest := []) ⟨hx, hb, hml, hown, hts⟩ (c_X0_setFact l D cI cB cO H.size h0 h1 h2 n P F j 4 1 (by first | assumption | omega)) (cwV 3 hts gX0_burstSpan_X0_setFact rfl rfl rfl (by decide +kernel) ⟨Nat.le_of_ble_eq_true rfl, Nat.le_of_ble_eq_true rfl⟩) (preV_of hK hP hD hS hA hSt [0, 1] (by decide) rfl 0 (ci := 0) rfl rfl) rfl rfl hl.1 rfl (lv_room (Nat.le_of_ble_eq_true rfl)) dX0_burstSpan_24 ⟨Nat.le_of_ble_eq_true rfl, Nat.le_of_ble_eq_true rfl⟩) hP hD hS hA [0, 1] [2] [1, 2, 0] [(h2, .inl (cI, 6, .inl G))] (fun (u_4 : Unit) => [(h0, .inr (0, [.int (nI n), .int P, .ref h1, .ref h2])), (h1, .inl (cI, 50, .inl (upd F (j * 5 + 4) 1))), (h2, .inl (cI, 6, .inl G))]) rfl rfl (by decide) (by decide) (by decide) (fun _ => rfl) (fun u_4 H locs q_4 hP hD hS => ?_)
    refine lv_iload_n hx hb dX0_burstSpan_27 rfl (lv_at hl 0 rfl) ?_
    refine e_i (u := (n, P, upd F (j * 5 + 4) 1, G)) hx hb hr hlocks hP hD hS dX0_burstSpan_28 ?_ ?_
    · rfl
    · exact (sBurst_ok (by omega) (by assumption)).symm
  · have c_2 := bI_0.mp c_2
    refine lv_ldc (v := -1000002) hx hb hown (hts (.constant RX0 38 (-1000002)) (List.mem_of_getElem? (i := 1) (by decide +kernel))) dX0_burstSpan_8 ?_
    refine e_i (u := (n, P, F, G)) hx hb hr hlocks hP hD hS dX0_burstSpan_10 ?_ ?_
    · rfl
    · exact (sBurst_f (by assumption)).symm
theorem in_X0_mendSpan_0 : ∀ w ∈ wsX00, w ∈ wsX0_mendSpan := fun _ h => List.mem_cons_of_mem _ (List.mem_append_right _ h)
set_option maxHeartbeats 4000000 in
set_option maxRecDepth 100000 in
theorem c_X0_mendSpan (l : Launch) (D : va_G) (cI cB cO : ClassId) (sz : Nat) (h0 h1 h2 n : Nat) (P : Int32) (F G : Nat → Int32) (i : Int32) (hn : n ≤ 10) : CI l yX0_mendSpan wsX0_mendSpan ({ frames := 2, cells := 0, slots := 0, locals := 43 } : Room) D (tyL cI cB cO) [.ref h0, .int i] [(h0, .inr (0, [.int (nI n), .int P, .ref h1, .ref h2])), (h1, .inl (cI, 50, .inl F)), (h2, .inl (cI, 6, .inl G))] sz (fun (ans : Int32) (u : Ln) => (ans, u) = sMend (n, P, F, G) i) (fun (u : Ln) => [(h0, .inr (0, [.int (nI u.1), .int u.2.1, .ref h1, .ref h2])), (h1, .inl (cI, 50, .inl u.2.2.1)), (h2, .inl (cI, 6, .inl u.2.2.2))]) 0 0 := by
  refine ct_of (cc := cX0_mendSpan) (maxL := 2) (ret := some .int) (own := RX0) (Qc := QI D (fun (ans : Int32) (u : Ln) => (ans, u) = sMend (n, P, F, G) i) (fun (u : Ln) => [(h0, .inr (0, [.int (nI u.1), .int u.2.1, .ref h1, .ref h2])), (h1, .inl (cI, 50, .inl u.2.2.1)), (h2, .inl (cI, 6, .inl u.2.2.2))])) (by decide) rfl rfl (Nat.le_of_ble_eq_true rfl) ?_
  intro pM eM sM mM below meth cM AM ls H locs hx hb hr hts hown hlocks hml hin hK hP hD hS hA hSt hl
  have hl : lv_has ls 2 [(0, .ref h0), (1, .int i)] := hl
  refine lv_aload_n hx hb dX0_mendSpan_0 rfl (lv_at hl 0 rfl) ?_
  refine lv_iload_n hx hb dX0_mendSpan_1 rfl (lv_at hl 1 rfl) ?_
  refine k_i (va_runV (As := [.int i]) (rest := []) ⟨hx, hb, hml, hown, hts⟩ (c_X0_hasSpan l D cI cB cO H.size h0 h1 h2 n P i ) (cwV 1 hts gX0_mendSpan_X0_hasSpan rfl rfl rfl (by decide +kernel) ⟨Nat.le_of_ble_eq_true rfl, Nat.le_of_ble_eq_true rfl⟩) (preV_of hK hP hD hS hA hSt [0] (by decide) rfl 0 (ci := 0) rfl rfl) rfl rfl hl.1 rfl (lv_room (Nat.le_of_ble_eq_true rfl)) dX0_mendSpan_2 ⟨Nat.le_of_ble_eq_true rfl, Nat.le_of_ble_eq_true rfl⟩) hP hD hS hA [0] [1, 2] [2, 0, 1] [(h1, .inl (cI, 50, .inl F)), (h2, .inl (cI, 6, .inl G))] (fun (u_1 : Unit) => [(h0, .inr (0, [.int (nI n), .int P, .ref h1, .ref h2])), (h1, .inl (cI, 50, .inl F)), (h2, .inl (cI, 6, .inl G))]) rfl rfl (by decide) (by decide) (by decide) (fun _ => rfl) (fun r_1 u_1 H locs q_1 hP hD hS => ?_)
  obtain rfl : r_1 = bI (inR i 0 (nI n - 1)) := q_1
  refine lv_if_ne (tgt := 11) hx hb dX0_mendSpan_5 (by decide) (fun c_2 => ?_) (fun c_2 => ?_)
  · have c_2 := bI_n0.mp c_2
    obtain ⟨j, hj, rfl⟩ := span_in hn c_2
    refine lv_aload_n hx hb dX0_mendSpan_11 rfl (lv_at hl 0 rfl) ?_
    refine lv_iload_n hx hb dX0_mendSpan_12 rfl (lv_at hl 1 rfl) ?_
    refine lv_iconst (v := 4) hx hb dX0_mendSpan_13 (by decide) ?_
    refine k_i (va_runV (As := [.int (nI j), .int (nI 4)]) (rest := []) ⟨hx, hb, hml, hown, hts⟩ (c_X0_fact l D cI cB cO H.size h0 h1 h2 n P F j 4 (by first | assumption | omega)) (cwV 2 hts gX0_mendSpan_X0_fact rfl rfl rfl (by decide +kernel) ⟨Nat.le_of_ble_eq_true rfl, Nat.le_of_ble_eq_true rfl⟩) (preV_of hK hP hD hS hA hSt [0, 1] (by decide) rfl 0 (ci := 0) rfl rfl) rfl rfl hl.1 rfl (lv_room (Nat.le_of_ble_eq_true rfl)) dX0_mendSpan_14 ⟨Nat.le_of_ble_eq_true rfl, Nat.le_of_ble_eq_true rfl⟩) hP hD hS hA [0, 1] [2] [1, 2, 0] [(h2, .inl (cI, 6, .inl G))] (fun (u_3 : Unit) => [(h0, .inr (0, [.int (nI n), .int P, .ref h1, .ref h2])), (h1, .inl (cI, 50, .inl F)), (h2, .inl (cI, 6, .inl G))]) rfl rfl (by decide) (by decide) (by decide) (fun _ => rfl) (fun r_3 u_3 H locs q_3 hP hD hS => ?_)
    obtain rfl : r_3 = F (j * 5 + 4) := q_3
    refine lv_if_eq (tgt := 34) hx hb dX0_mendSpan_17 (by decide) (fun c_4 => ?_) (fun c_4 => ?_)
    · refine lv_ldc (v := -1000003) hx hb hown (hts (.constant RX0 44 (-1000003)) (List.mem_of_getElem? (i := 3) (by decide +kernel))) dX0_mendSpan_34 ?_
      refine e_i (u := (n, P, F, G)) hx hb hr hlocks hP hD hS dX0_mendSpan_36 ?_ ?_
      · rfl
      · first | exact (sMend_n1 (by omega) (by assumption) (by assumption)).symm | exact (sMend_n2 (by omega) (by assumption) (by assumption)).symm
    · refine lv_aload_n hx hb dX0_mendSpan_20 rfl (lv_at hl 0 rfl) ?_
      refine va_get (D := D) (ci := 0) (v := .ref h2) (C := RX0) (T := TX0) (N := 4) hx hb hts in_X0_mendSpan_0 hown hK hP 0 rfl rfl 3 (by decide) (hts (.fieldLink RX0 22 "HoseSpans$Line" "settings" "[I") (List.mem_of_getElem? (i := 2) (by decide +kernel))) (fun _ h9 => h9) rfl dX0_mendSpan_21 ?_
      refine lv_iconst (v := 5) hx hb dX0_mendSpan_24 (by decide) ?_
      refine va_iald hx hb hK hP 2 0 rfl rfl (vp_in_nI (n := 5) (by decide) (by decide)) dX0_mendSpan_25 ?_
      refine e_n (y := G 5) (congrArg G (by decide)) ?_
      refine lv_aload_n hx hb dX0_mendSpan_26 rfl (lv_at hl 0 rfl) ?_
      refine lv_iload_n hx hb dX0_mendSpan_27 rfl (lv_at hl 1 rfl) ?_
      refine k_i (va_runV (As := [.int (nI j)]) (rest := [.int (G 5)]) ⟨hx, hb, hml, hown, hts⟩ (c_X0_hosesOf l D cI cB cO H.size h0 h1 h2 n P F j (by first | assumption | omega)) (cwV 1 hts gX0_mendSpan_X0_hosesOf rfl rfl rfl (by decide +kernel) ⟨Nat.le_of_ble_eq_true rfl, Nat.le_of_ble_eq_true rfl⟩) (preV_of hK hP hD hS hA hSt [0, 1] (by decide) rfl 0 (ci := 0) rfl rfl) rfl rfl hl.1 rfl (lv_room (Nat.le_of_ble_eq_true rfl)) dX0_mendSpan_28 ⟨Nat.le_of_ble_eq_true rfl, Nat.le_of_ble_eq_true rfl⟩) hP hD hS hA [0, 1] [2] [1, 2, 0] [(h2, .inl (cI, 6, .inl G))] (fun (u_5 : Unit) => [(h0, .inr (0, [.int (nI n), .int P, .ref h1, .ref h2])), (h1, .inl (cI, 50, .inl F)), (h2, .inl (cI, 6, .inl G))]) rfl rfl (by decide) (by decide) (by decide) (fun _ => rfl) (fun r_5 u_5 H locs q_5 hP hD hS => ?_)
      obtain rfl : r_5 = hosesF F j := q_5
      refine lv_icmp_ge (tgt := 37) hx hb dX0_mendSpan_31 (by decide) (fun c_6 => ?_) (fun c_6 => ?_)
      · have c_6 := Int32.not_lt.mpr c_6
        refine lv_aload_n hx hb dX0_mendSpan_37 rfl (lv_at hl 0 rfl) ?_
        refine lv_iload_n hx hb dX0_mendSpan_38 rfl (lv_at hl 1 rfl) ?_
        refine lv_iconst (v := 4) hx hb dX0_mendSpan_39 (by decide) ?_
        refine lv_iconst (v := 0) hx hb dX0_mendSpan_40 (by decide) ?_
        refine k_v (va_runV (As := [.int (nI j), .int (nI 4), .int 0]) (rest := []) ⟨hx, hb, hml, hown, hts⟩ (c_X0_setFact l D cI cB cO H.size h0 h1 h2 n P F j 4 0 (by first | assumption | omega)) (cwV 3 hts gX0_mendSpan_X0_setFact rfl rfl rfl (by decide +kernel) ⟨Nat.le_of_ble_eq_true rfl, Nat.le_of_ble_eq_true rfl⟩) (preV_of hK hP hD hS hA hSt [0, 1] (by decide) rfl 0 (ci := 0) rfl rfl) rfl rfl hl.1 rfl (lv_room (Nat.le_of_ble_eq_true rfl)) dX0_mendSpan_41 ⟨Nat.le_of_ble_eq_true rfl, Nat.le_of_ble_eq_true rfl⟩) hP hD hS hA [0, 1] [2] [1, 2, 0] [(h2, .inl (cI, 6, .inl G))] (fun (u_7 : Unit) => [(h0, .inr (0, [.int (nI n), .int P, .ref h1, .ref h2])), (h1, .inl (cI, 50, .inl (upd F (j * 5 + 4) 0))), (h2, .inl (cI, 6, .inl G))]) rfl rfl (by decide) (by decide) (by decide) (fun _ => rfl) (fun u_7 H locs q_7 hP hD hS => ?_)
        refine lv_aload_n hx hb dX0_mendSpan_44 rfl (lv_at hl 0 rfl) ?_
        refine va_get (D := D) (ci := 0) (v := .ref h2) (C := RX0) (T := TX0) (N := 4) hx hb hts in_X0_mendSpan_0 hown hK hP 0 rfl rfl 3 (by decide) (hts (.fieldLink RX0 22 "HoseSpans$Line" "settings" "[I") (List.mem_of_getElem? (i := 2) (by decide +kernel))) (fun _ h9 => h9) rfl dX0_mendSpan_45 ?_
        refine lv_iconst (v := 5) hx hb dX0_mendSpan_48 (by decide) ?_
        refine lv_dup2_11 hx hb dX0_mendSpan_49 rfl rfl ?_
        refine va_iald hx hb hK hP 2 0 rfl rfl (vp_in_nI (n := 5) (by decide) (by decide)) dX0_mendSpan_50 ?_
        refine e_n (y := G 5) (congrArg G (by decide)) ?_
        refine lv_aload_n hx hb dX0_mendSpan_51 rfl (lv_at hl 0 rfl) ?_
        refine lv_iload_n hx hb dX0_mendSpan_52 rfl (lv_at hl 1 rfl) ?_
        refine k_i (va_runV (As := [.int (nI j)]) (rest := [.int (G 5), .int 5, .ref h2]) ⟨hx, hb, hml, hown, hts⟩ (c_X0_hosesOf l D cI cB cO H.size h0 h1 h2 n P (upd F (j * 5 + 4) 0) j (by first | assumption | omega)) (cwV 1 hts gX0_mendSpan_X0_hosesOf rfl rfl rfl (by decide +kernel) ⟨Nat.le_of_ble_eq_true rfl, Nat.le_of_ble_eq_true rfl⟩) (preV_of hK hP hD hS hA hSt [0, 1] (by decide) rfl 0 (ci := 0) rfl rfl) rfl rfl hl.1 rfl (lv_room (Nat.le_of_ble_eq_true rfl)) dX0_mendSpan_53 ⟨Nat.le_of_ble_eq_true rfl, Nat.le_of_ble_eq_true rfl⟩) hP hD hS hA [0, 1] [2] [1, 2, 0] [(h2, .inl (cI, 6, .inl G))] (fun (u_8 : Unit) => [(h0, .inr (0, [.int (nI n), .int P, .ref h1, .ref h2])), (h1, .inl (cI, 50, .inl (upd F (j * 5 + 4) 0))), (h2, .inl (cI, 6, .inl G))]) rfl rfl (by decide) (by decide) (by decide) (fun _ => rfl) (fun r_8 u_8 H locs q_8 hP hD hS => ?_)
        obtain rfl : r_8 = hosesF (upd F (j * 5 + 4) 0) j := q_8
        refine e_n (y := hosesF F j) upd_hosesF ?_
        refine lv_isub hx hb dX0_mendSpan_56 ?_
        refine va_iast hx hb hK hP hD hS 2 0 rfl rfl (vp_in_nI (n := 5) (by decide) (by decide)) dX0_mendSpan_57 (fun H locs hP hD hS => ?_)
        rw [show Int32.toNatClampNeg 5 = 5 from (by decide)] at hP hD
        have hP : va_P D vwCl [(h0, .inr (0, [.int (nI n), .int P, .ref h1, .ref h2])), (h1, .inl (cI, 50, .inl (upd F (j * 5 + 4) 0))), (h2, .inl (cI, 6, .inl (upd G 5 ((G 5) - (hosesF F j)))))] H := hP
        have hD : va_D AM [(h0, .inr (0, [.int (nI n), .int P, .ref h1, .ref h2])), (h1, .inl (cI, 50, .inl (upd F (j * 5 + 4) 0))), (h2, .inl (cI, 6, .inl (upd G 5 ((G 5) - (hosesF F j)))))] := hD
        refine lv_aload_n hx hb dX0_mendSpan_58 rfl (lv_at hl 0 rfl) ?_
        refine va_get (D := D) (ci := 0) (v := .ref h2) (C := RX0) (T := TX0) (N := 4) hx hb hts in_X0_mendSpan_0 hown hK hP 0 rfl rfl 3 (by decide) (hts (.fieldLink RX0 22 "HoseSpans$Line" "settings" "[I") (List.mem_of_getElem? (i := 2) (by decide +kernel))) (fun _ h9 => h9) rfl dX0_mendSpan_59 ?_
        refine lv_iconst (v := 5) hx hb dX0_mendSpan_62 (by decide) ?_
        refine va_iald hx hb hK hP 2 0 rfl rfl (vp_in_nI (n := 5) (by decide) (by decide)) dX0_mendSpan_63 ?_
        refine e_n (y := (upd G 5 ((G 5) - (hosesF F j))) 5) (congrArg (upd G 5 ((G 5) - (hosesF F j))) (by decide)) ?_
        refine e_n (y := G 5 - hosesF F j) pk_us ?_
        refine e_i (u := (n, P, upd F (j * 5 + 4) 0, upd G 5 (G 5 - hosesF F j))) hx hb hr hlocks hP hD hS dX0_mendSpan_64 ?_ ?_
        · rfl
        · exact (sMend_ok (by omega) (by assumption) (by assumption) (by assumption)).symm
      · have c_6 := Int32.not_le.mp c_6
        refine lv_ldc (v := -1000003) hx hb hown (hts (.constant RX0 44 (-1000003)) (List.mem_of_getElem? (i := 3) (by decide +kernel))) dX0_mendSpan_34 ?_
        refine e_i (u := (n, P, F, G)) hx hb hr hlocks hP hD hS dX0_mendSpan_36 ?_ ?_
        · rfl
        · first | exact (sMend_n1 (by omega) (by assumption) (by assumption)).symm | exact (sMend_n2 (by omega) (by assumption) (by assumption)).symm
  · have c_2 := bI_0.mp c_2
    refine lv_ldc (v := -1000002) hx hb hown (hts (.constant RX0 38 (-1000002)) (List.mem_of_getElem? (i := 1) (by decide +kernel))) dX0_mendSpan_8 ?_
    refine e_i (u := (n, P, F, G)) hx hb hr hlocks hP hD hS dX0_mendSpan_10 ?_ ?_
    · rfl
    · exact (sMend_f (by assumption)).symm
theorem in_X0_allLengths_0 : ∀ w ∈ wsX00, w ∈ wsX0_allLengths := fun _ h => List.mem_cons_of_mem _ (List.mem_append_right _ h)
set_option maxHeartbeats 4000000 in
set_option maxRecDepth 100000 in
theorem c_X0_allLengths (l : Launch) (D : va_G) (cI cB cO : ClassId) (sz : Nat) (h0 h1 h2 n : Nat) (P : Int32) (F : Nat → Int32) (hn : n ≤ 10) : CI l yX0_allLengths wsX0_allLengths ({ frames := 2, cells := 0, slots := 0, locals := 43 } : Room) D (tyL cI cB cO) [.ref h0] [(h0, .inr (0, [.int (nI n), .int P, .ref h1, .ref h2])), (h1, .inl (cI, 50, .inl F))] sz (fun (r : Int32) (_ : Unit) => r = sumH F n) (fun (u : Unit) => [(h0, .inr (0, [.int (nI n), .int P, .ref h1, .ref h2])), (h1, .inl (cI, 50, .inl F))]) 0 0 := by
  refine ct_of (cc := cX0_allLengths) (maxL := 3) (ret := some .int) (own := RX0) (Qc := QI D (fun (r : Int32) (_ : Unit) => r = sumH F n) (fun (u : Unit) => [(h0, .inr (0, [.int (nI n), .int P, .ref h1, .ref h2])), (h1, .inl (cI, 50, .inl F))])) (by decide) rfl rfl (Nat.le_of_ble_eq_true rfl) ?_
  intro pM eM sM mM below meth cM AM ls H locs hx hb hr hts hown hlocks hml hin hK hP hD hS hA hSt hl
  have hl : lv_has ls 3 [(0, .ref h0)] := hl
  refine lv_iconst (v := 0) hx hb dX0_allLengths_0 (by decide) ?_
  refine lv_istore_n (lv' := [(1, .int 0), (0, .ref h0)]) hx hb dX0_allLengths_1 rfl hl (by decide) rfl (fun ls hl => ?_)
  refine lv_iconst (v := 0) hx hb dX0_allLengths_2 (by decide) ?_
  refine lv_istore_n (lv' := [(2, .int 0), (1, .int 0), (0, .ref h0)]) hx hb dX0_allLengths_3 rfl hl (by decide) rfl (fun ls hl => ?_)
  have lp_1 : ∀ (nn : Nat) (i : Nat), (i ≤ n) → (n - i) < nn → ∀ (H : Heap) (locs : List Loc), va_P D vwCl [(h0, .inr (0, [.int (nI n), .int P, .ref h1, .ref h2])), (h1, .inl (cI, 50, .inl F))] H → va_D AM [(h0, .inr (0, [.int (nI n), .int P, .ref h1, .ref h2])), (h1, .inl (cI, 50, .inl F))] → va_S AM sM.heap H locs → ∀ (ls : Array Slot), lv_has ls 3 [(0, .ref h0), (1, .int (sumH F i)), (2, .int (nI i))] → W pM l eM ({ frames := 2, cells := 0, slots := 0, locals := 43 } : Room) sM mM ([.ref h0] : List Value).toArray below meth cM H locs 0 0 (MQ below (QI D (fun (r : Int32) (_ : Unit) => r = sumH F n) (fun (u : Unit) => [(h0, .inr (0, [.int (nI n), .int P, .ref h1, .ref h2])), (h1, .inl (cI, 50, .inl F))]) AM) ([.ref h0] : List Value).toArray sM 0 0 AM) (F0 mM 4 ls []) := by
    intro nn
    induction nn with
    | zero =>
      intro i hi hm
      exact absurd hm (Nat.not_lt_zero _)
    | succ nn ih_2 =>
      intro i hi hm H locs hP hD hS ls hl
      refine lv_iload_n hx hb dX0_allLengths_4 rfl (lv_at hl 2 rfl) ?_
      refine lv_aload_n hx hb dX0_allLengths_5 rfl (lv_at hl 0 rfl) ?_
      refine va_get (D := D) (ci := 0) (v := .int (nI n)) (C := RX0) (T := TX0) (N := 4) hx hb hts in_X0_allLengths_0 hown hK hP 0 rfl rfl 0 (by decide) (hts (.fieldLink RX0 9 "HoseSpans$Line" "spans" "I") (List.mem_of_getElem? (i := 1) (by decide +kernel))) (fun _ h9 => h9) rfl dX0_allLengths_6 ?_
      refine lv_icmp_ge (tgt := 26) hx hb dX0_allLengths_9 (by decide) (fun c_3 => ?_) (fun c_3 => ?_)
      · have c_3 := Int32.not_lt.mpr c_3
        have c_3 : i = n := by have h := mt (nI_ltI (a := i) (b := n) (by omega) (by omega)).mpr c_3; omega
        refine lv_iload_n hx hb dX0_allLengths_26 rfl (lv_at hl 1 rfl) ?_
        refine e_i (u := ()) hx hb hr hlocks hP hD hS dX0_allLengths_27 ?_ ?_
        · rfl
        · exact congrArg _ ‹i = n›
      · have c_3 := Int32.not_le.mp c_3
        have c_3 : i < n := (nI_ltI (by omega) (by omega)).mp c_3
        refine lv_iload_n hx hb dX0_allLengths_12 rfl (lv_at hl 1 rfl) ?_
        refine lv_aload_n hx hb dX0_allLengths_13 rfl (lv_at hl 0 rfl) ?_
        refine lv_iload_n hx hb dX0_allLengths_14 rfl (lv_at hl 2 rfl) ?_
        refine k_i (va_runV (As := [.int (nI i)]) (rest := [.int (sumH F i)]) ⟨hx, hb, hml, hown, hts⟩ (c_X0_hosesOf l D cI cB cO H.size h0 h1 h2 n P F i (by first | assumption | omega)) (cwV 1 hts gX0_allLengths_X0_hosesOf rfl rfl rfl (by decide +kernel) ⟨Nat.le_of_ble_eq_true rfl, Nat.le_of_ble_eq_true rfl⟩) (preV_of hK hP hD hS hA hSt [0, 1] (by decide) rfl 0 (ci := 0) rfl rfl) rfl rfl hl.1 rfl (lv_room (Nat.le_of_ble_eq_true rfl)) dX0_allLengths_15 ⟨Nat.le_of_ble_eq_true rfl, Nat.le_of_ble_eq_true rfl⟩) hP hD hS hA [0, 1] [] [0, 1] [] (fun (u_4 : Unit) => [(h0, .inr (0, [.int (nI n), .int P, .ref h1, .ref h2])), (h1, .inl (cI, 50, .inl F))]) rfl rfl (by decide) (by decide) (by decide) (fun _ => rfl) (fun r_4 u_4 H locs q_4 hP hD hS => ?_)
        obtain rfl : r_4 = hosesF F i := q_4
        refine lv_iadd hx hb dX0_allLengths_18 ?_
        refine lv_istore_n (lv' := [(1, .int ((sumH F i) + (hosesF F i))), (0, .ref h0), (2, .int (nI i))]) hx hb dX0_allLengths_19 rfl hl (by decide) rfl (fun ls hl => ?_)
        refine lv_iinc (v := nI (i + 1)) (lv' := [(2, .int (nI (i + 1))), (1, .int ((sumH F i) + (hosesF F i))), (0, .ref h0)]) hx hb dX0_allLengths_20 hl (k := 2) rfl (nI_add i 1) (by decide) rfl (fun ls hl => ?_)
        refine lv_goto (tgt := 4) hx hb dX0_allLengths_23 (by decide) ?_
        have hl9 : lv_has ls 3 [(0, .ref h0), (1, .int ((sumH F i) + (hosesF F i))), (2, .int (nI (i + 1)))] := lv_sub hl [2, 1, 0] rfl
        rw [show ([(0, .ref h0), (1, .int ((sumH F i) + (hosesF F i))), (2, .int (nI (i + 1)))] : List (Nat × Value)) = [(0, .ref h0), (1, .int (sumH F (i + 1))), (2, .int (nI (i + 1)))] from rfl] at hl9
        exact ih_2 (i + 1) (by first | assumption | omega) (by omega) H locs hP hD hS ls hl9
  have hl9 : lv_has ls 3 [(0, .ref h0), (1, .int 0), (2, .int 0)] := lv_sub hl [2, 1, 0] rfl
  rw [show ([(0, .ref h0), (1, .int 0), (2, .int 0)] : List (Nat × Value)) = [(0, .ref h0), (1, .int (sumH F 0)), (2, .int (nI 0))] from rfl] at hl9
  exact lp_1 ((n - 0) + 1) 0 (by first | assumption | omega) (Nat.lt_succ_self _) H locs hP hD hS ls hl9
theorem in_X0_burstSpans_0 : ∀ w ∈ wsX00, w ∈ wsX0_burstSpans := fun _ h => List.mem_cons_of_mem _ (List.mem_append_right _ h)
set_option maxHeartbeats 4000000 in
set_option maxRecDepth 100000 in
theorem c_X0_burstSpans (l : Launch) (D : va_G) (cI cB cO : ClassId) (sz : Nat) (h0 h1 h2 n : Nat) (P : Int32) (F : Nat → Int32) (hn : n ≤ 10) : CI l yX0_burstSpans wsX0_burstSpans ({ frames := 1, cells := 0, slots := 0, locals := 22 } : Room) D (tyL cI cB cO) [.ref h0] [(h0, .inr (0, [.int (nI n), .int P, .ref h1, .ref h2])), (h1, .inl (cI, 50, .inl F))] sz (fun (r : Int32) (_ : Unit) => r = sumB F n) (fun (u : Unit) => [(h0, .inr (0, [.int (nI n), .int P, .ref h1, .ref h2])), (h1, .inl (cI, 50, .inl F))]) 0 0 := by
  refine ct_of (cc := cX0_burstSpans) (maxL := 3) (ret := some .int) (own := RX0) (Qc := QI D (fun (r : Int32) (_ : Unit) => r = sumB F n) (fun (u : Unit) => [(h0, .inr (0, [.int (nI n), .int P, .ref h1, .ref h2])), (h1, .inl (cI, 50, .inl F))])) (by decide) rfl rfl (Nat.le_of_ble_eq_true rfl) ?_
  intro pM eM sM mM below meth cM AM ls H locs hx hb hr hts hown hlocks hml hin hK hP hD hS hA hSt hl
  have hl : lv_has ls 3 [(0, .ref h0)] := hl
  refine lv_iconst (v := 0) hx hb dX0_burstSpans_0 (by decide) ?_
  refine lv_istore_n (lv' := [(1, .int 0), (0, .ref h0)]) hx hb dX0_burstSpans_1 rfl hl (by decide) rfl (fun ls hl => ?_)
  refine lv_iconst (v := 0) hx hb dX0_burstSpans_2 (by decide) ?_
  refine lv_istore_n (lv' := [(2, .int 0), (1, .int 0), (0, .ref h0)]) hx hb dX0_burstSpans_3 rfl hl (by decide) rfl (fun ls hl => ?_)
  have lp_1 : ∀ (nn : Nat) (i : Nat), (i ≤ n) → (n - i) < nn → ∀ (H : Heap) (locs : List Loc), va_P D vwCl [(h0, .inr (0, [.int (nI n), .int P, .ref h1, .ref h2])), (h1, .inl (cI, 50, .inl F))] H → va_D AM [(h0, .inr (0, [.int (nI n), .int P, .ref h1, .ref h2])), (h1, .inl (cI, 50, .inl F))] → va_S AM sM.heap H locs → ∀ (ls : Array Slot), lv_has ls 3 [(0, .ref h0), (1, .int (sumB F i)), (2, .int (nI i))] → W pM l eM ({ frames := 1, cells := 0, slots := 0, locals := 22 } : Room) sM mM ([.ref h0] : List Value).toArray below meth cM H locs 0 0 (MQ below (QI D (fun (r : Int32) (_ : Unit) => r = sumB F n) (fun (u : Unit) => [(h0, .inr (0, [.int (nI n), .int P, .ref h1, .ref h2])), (h1, .inl (cI, 50, .inl F))]) AM) ([.ref h0] : List Value).toArray sM 0 0 AM) (F0 mM 4 ls []) := by
    intro nn
    induction nn with
    | zero =>
      intro i hi hm
      exact absurd hm (Nat.not_lt_zero _)
    | succ nn ih_2 =>
      intro i hi hm H locs hP hD hS ls hl
      refine lv_iload_n hx hb dX0_burstSpans_4 rfl (lv_at hl 2 rfl) ?_
      refine lv_aload_n hx hb dX0_burstSpans_5 rfl (lv_at hl 0 rfl) ?_
      refine va_get (D := D) (ci := 0) (v := .int (nI n)) (C := RX0) (T := TX0) (N := 4) hx hb hts in_X0_burstSpans_0 hown hK hP 0 rfl rfl 0 (by decide) (hts (.fieldLink RX0 9 "HoseSpans$Line" "spans" "I") (List.mem_of_getElem? (i := 1) (by decide +kernel))) (fun _ h9 => h9) rfl dX0_burstSpans_6 ?_
      refine lv_icmp_ge (tgt := 27) hx hb dX0_burstSpans_9 (by decide) (fun c_3 => ?_) (fun c_3 => ?_)
      · have c_3 := Int32.not_lt.mpr c_3
        have c_3 : i = n := by have h := mt (nI_ltI (a := i) (b := n) (by omega) (by omega)).mpr c_3; omega
        refine lv_iload_n hx hb dX0_burstSpans_27 rfl (lv_at hl 1 rfl) ?_
        refine e_i (u := ()) hx hb hr hlocks hP hD hS dX0_burstSpans_28 ?_ ?_
        · rfl
        · exact congrArg _ ‹i = n›
      · have c_3 := Int32.not_le.mp c_3
        have c_3 : i < n := (nI_ltI (by omega) (by omega)).mp c_3
        refine lv_iload_n hx hb dX0_burstSpans_12 rfl (lv_at hl 1 rfl) ?_
        refine lv_aload_n hx hb dX0_burstSpans_13 rfl (lv_at hl 0 rfl) ?_
        refine lv_iload_n hx hb dX0_burstSpans_14 rfl (lv_at hl 2 rfl) ?_
        refine lv_iconst (v := 4) hx hb dX0_burstSpans_15 (by decide) ?_
        refine k_i (va_runV (As := [.int (nI i), .int (nI 4)]) (rest := [.int (sumB F i)]) ⟨hx, hb, hml, hown, hts⟩ (c_X0_fact l D cI cB cO H.size h0 h1 h2 n P F i 4 (by first | assumption | omega)) (cwV 2 hts gX0_burstSpans_X0_fact rfl rfl rfl (by decide +kernel) ⟨Nat.le_of_ble_eq_true rfl, Nat.le_of_ble_eq_true rfl⟩) (preV_of hK hP hD hS hA hSt [0, 1] (by decide) rfl 0 (ci := 0) rfl rfl) rfl rfl hl.1 rfl (lv_room (Nat.le_of_ble_eq_true rfl)) dX0_burstSpans_16 ⟨Nat.le_of_ble_eq_true rfl, Nat.le_of_ble_eq_true rfl⟩) hP hD hS hA [0, 1] [] [0, 1] [] (fun (u_4 : Unit) => [(h0, .inr (0, [.int (nI n), .int P, .ref h1, .ref h2])), (h1, .inl (cI, 50, .inl F))]) rfl rfl (by decide) (by decide) (by decide) (fun _ => rfl) (fun r_4 u_4 H locs q_4 hP hD hS => ?_)
        obtain rfl : r_4 = F (i * 5 + 4) := q_4
        refine lv_iadd hx hb dX0_burstSpans_19 ?_
        refine lv_istore_n (lv' := [(1, .int ((sumB F i) + (F (i * 5 + 4)))), (0, .ref h0), (2, .int (nI i))]) hx hb dX0_burstSpans_20 rfl hl (by decide) rfl (fun ls hl => ?_)
        refine lv_iinc (v := nI (i + 1)) (lv' := [(2, .int (nI (i + 1))), (1, .int ((sumB F i) + (F (i * 5 + 4)))), (0, .ref h0)]) hx hb dX0_burstSpans_21 hl (k := 2) rfl (nI_add i 1) (by decide) rfl (fun ls hl => ?_)
        refine lv_goto (tgt := 4) hx hb dX0_burstSpans_24 (by decide) ?_
        have hl9 : lv_has ls 3 [(0, .ref h0), (1, .int ((sumB F i) + (F (i * 5 + 4)))), (2, .int (nI (i + 1)))] := lv_sub hl [2, 1, 0] rfl
        rw [show ([(0, .ref h0), (1, .int ((sumB F i) + (F (i * 5 + 4)))), (2, .int (nI (i + 1)))] : List (Nat × Value)) = [(0, .ref h0), (1, .int (sumB F (i + 1))), (2, .int (nI (i + 1)))] from rfl] at hl9
        exact ih_2 (i + 1) (by first | assumption | omega) (by omega) H locs hP hD hS ls hl9
  have hl9 : lv_has ls 3 [(0, .ref h0), (1, .int 0), (2, .int 0)] := lv_sub hl [2, 1, 0] rfl
  rw [show ([(0, .ref h0), (1, .int 0), (2, .int 0)] : List (Nat × Value)) = [(0, .ref h0), (1, .int (sumB F 0)), (2, .int (nI 0))] from rfl] at hl9
  exact lp_1 ((n - 0) + 1) 0 (by first | assumption | omega) (Nat.lt_succ_self _) H locs hP hD hS ls hl9
theorem in_X0_copyFrom_0 : ∀ w ∈ wsX00, w ∈ wsX0_copyFrom := fun _ h => List.mem_cons_of_mem _ (List.mem_append_right _ h)
set_option maxHeartbeats 4000000 in
set_option maxRecDepth 100000 in
theorem c_X0_copyFrom (l : Launch) (D : va_G) (cI cB cO : ClassId) (sz : Nat) (h0 h1 h2 n : Nat) (P : Int32) (F G : Nat → Int32) (k0 k1 k2 n2 : Nat) (P2 : Int32) (F2 G2 : Nat → Int32)  : CV l yX0_copyFrom wsX0_copyFrom ({ frames := 1, cells := 0, slots := 0, locals := 60 } : Room) D (tyL cI cB cO) [.ref h0, .ref k0] [(h0, .inr (0, [.int (nI n), .int P, .ref h1, .ref h2])), (h1, .inl (cI, 50, .inl F)), (h2, .inl (cI, 6, .inl G)), (k0, .inr (0, [.int (nI n2), .int P2, .ref k1, .ref k2])), (k1, .inl (cI, 50, .inl F2)), (k2, .inl (cI, 6, .inl G2))] sz (fun (_ : Unit) => True) (fun (u : Unit) => [(h0, .inr (0, [.int (nI n2), .int P2, .ref h1, .ref h2])), (h1, .inl (cI, 50, .inl F2)), (h2, .inl (cI, 6, .inl G2)), (k0, .inr (0, [.int (nI n2), .int P2, .ref k1, .ref k2])), (k1, .inl (cI, 50, .inl F2)), (k2, .inl (cI, 6, .inl G2))]) 0 0 := by
  refine ct_of (cc := cX0_copyFrom) (maxL := 2) (ret := none) (own := RX0) (Qc := QV D (fun (_ : Unit) => True) (fun (u : Unit) => [(h0, .inr (0, [.int (nI n2), .int P2, .ref h1, .ref h2])), (h1, .inl (cI, 50, .inl F2)), (h2, .inl (cI, 6, .inl G2)), (k0, .inr (0, [.int (nI n2), .int P2, .ref k1, .ref k2])), (k1, .inl (cI, 50, .inl F2)), (k2, .inl (cI, 6, .inl G2))])) (by decide) rfl rfl (Nat.le_of_ble_eq_true rfl) ?_
  intro pM eM sM mM below meth cM AM ls H locs hx hb hr hts hown hlocks hml hin hK hP hD hS hA hSt hl
  have hl : lv_has ls 2 [(0, .ref h0), (1, .ref k0)] := hl
  refine lv_aload_n hx hb dX0_copyFrom_0 rfl (lv_at hl 0 rfl) ?_
  refine lv_aload_n hx hb dX0_copyFrom_1 rfl (lv_at hl 1 rfl) ?_
  refine va_get (D := D) (ci := 0) (v := .int (nI n2)) (C := RX0) (T := TX0) (N := 4) hx hb hts in_X0_copyFrom_0 hown hK hP 3 rfl rfl 0 (by decide) (hts (.fieldLink RX0 9 "HoseSpans$Line" "spans" "I") (List.mem_of_getElem? (i := 1) (by decide +kernel))) (fun _ h9 => h9) rfl dX0_copyFrom_2 ?_
  refine va_put (D := D) (ci := 0) (v := .int (nI n2)) (ty := .int) (C := RX0) (T := TX0) (N := 4) hx hb hts in_X0_copyFrom_0 tyX0 tyX0_ok nmX0 hown hK hP hD hS 0 rfl rfl 0 (by decide) (hts (.fieldLink RX0 9 "HoseSpans$Line" "spans" "I") (List.mem_of_getElem? (i := 1) (by decide +kernel))) (fun _ h9 => h9) rfl (by decide +kernel) rfl rfl (Nat.le_of_ble_eq_true rfl) dX0_copyFrom_5 (fun H locs hP hD hS => ?_)
  have hP : va_P D vwCl [(h0, .inr (0, [.int (nI n2), .int P, .ref h1, .ref h2])), (h1, .inl (cI, 50, .inl F)), (h2, .inl (cI, 6, .inl G)), (k0, .inr (0, [.int (nI n2), .int P2, .ref k1, .ref k2])), (k1, .inl (cI, 50, .inl F2)), (k2, .inl (cI, 6, .inl G2))] H := hP
  have hD : va_D AM [(h0, .inr (0, [.int (nI n2), .int P, .ref h1, .ref h2])), (h1, .inl (cI, 50, .inl F)), (h2, .inl (cI, 6, .inl G)), (k0, .inr (0, [.int (nI n2), .int P2, .ref k1, .ref k2])), (k1, .inl (cI, 50, .inl F2)), (k2, .inl (cI, 6, .inl G2))] := hD
  refine lv_aload_n hx hb dX0_copyFrom_8 rfl (lv_at hl 0 rfl) ?_
  refine lv_aload_n hx hb dX0_copyFrom_9 rfl (lv_at hl 1 rfl) ?_
  refine va_get (D := D) (ci := 0) (v := .int P2) (C := RX0) (T := TX0) (N := 4) hx hb hts in_X0_copyFrom_0 hown hK hP 3 rfl rfl 1 (by decide) (hts (.fieldLink RX0 15 "HoseSpans$Line" "pumps" "I") (List.mem_of_getElem? (i := 2) (by decide +kernel))) (fun _ h9 => h9) rfl dX0_copyFrom_10 ?_
  refine va_put (D := D) (ci := 0) (v := .int P2) (ty := .int) (C := RX0) (T := TX0) (N := 4) hx hb hts in_X0_copyFrom_0 tyX0 tyX0_ok nmX0 hown hK hP hD hS 0 rfl rfl 1 (by decide) (hts (.fieldLink RX0 15 "HoseSpans$Line" "pumps" "I") (List.mem_of_getElem? (i := 2) (by decide +kernel))) (fun _ h9 => h9) rfl (by decide +kernel) rfl rfl (Nat.le_of_ble_eq_true rfl) dX0_copyFrom_13 (fun H locs hP hD hS => ?_)
  have hP : va_P D vwCl [(h0, .inr (0, [.int (nI n2), .int P2, .ref h1, .ref h2])), (h1, .inl (cI, 50, .inl F)), (h2, .inl (cI, 6, .inl G)), (k0, .inr (0, [.int (nI n2), .int P2, .ref k1, .ref k2])), (k1, .inl (cI, 50, .inl F2)), (k2, .inl (cI, 6, .inl G2))] H := hP
  have hD : va_D AM [(h0, .inr (0, [.int (nI n2), .int P2, .ref h1, .ref h2])), (h1, .inl (cI, 50, .inl F)), (h2, .inl (cI, 6, .inl G)), (k0, .inr (0, [.int (nI n2), .int P2, .ref k1, .ref k2])), (k1, .inl (cI, 50, .inl F2)), (k2, .inl (cI, 6, .inl G2))] := hD
  refine lv_aload_n hx hb dX0_copyFrom_16 rfl (lv_at hl 1 rfl) ?_
  refine va_get (D := D) (ci := 0) (v := .ref k1) (C := RX0) (T := TX0) (N := 4) hx hb hts in_X0_copyFrom_0 hown hK hP 3 rfl rfl 2 (by decide) (hts (.fieldLink RX0 18 "HoseSpans$Line" "facts" "[I") (List.mem_of_getElem? (i := 3) (by decide +kernel))) (fun _ h9 => h9) rfl dX0_copyFrom_17 ?_
  refine lv_iconst (v := 0) hx hb dX0_copyFrom_20 (by decide) ?_
  refine lv_aload_n hx hb dX0_copyFrom_21 rfl (lv_at hl 0 rfl) ?_
  refine va_get (D := D) (ci := 0) (v := .ref h1) (C := RX0) (T := TX0) (N := 4) hx hb hts in_X0_copyFrom_0 hown hK hP 0 rfl rfl 2 (by decide) (hts (.fieldLink RX0 18 "HoseSpans$Line" "facts" "[I") (List.mem_of_getElem? (i := 3) (by decide +kernel))) (fun _ h9 => h9) rfl dX0_copyFrom_22 ?_
  refine lv_iconst (v := 0) hx hb dX0_copyFrom_25 (by decide) ?_
  refine lv_bipush (v := 50) hx hb dX0_copyFrom_26 (by decide) ?_
  refine va_copyi hx hb (by rw [hml]; exact hl.1.symm) hown (hts (.methodLink RX0 28 arraycopyName) (List.mem_of_getElem? (i := 4) (by decide +kernel))) (hts (.native arraycopyName) (List.mem_of_getElem? (i := 5) (by decide +kernel))) (hts (.static arraycopyName) (List.mem_of_getElem? (i := 6) (by decide +kernel))) (hts (.initialized RJ10) (List.mem_of_getElem? (i := 7) (by decide +kernel))) hK hP hD hS 4 1 0 0 rfl rfl rfl rfl rfl (by decide) (by decide) (by decide) (by decide) (by decide) (fun _ _ => rfl) (Nat.le_of_ble_eq_true rfl) (Nat.le_of_ble_eq_true rfl) dX0_copyFrom_28 (fun H locs hP hD hS => ?_)
  have hP : va_P D vwCl [(h0, .inr (0, [.int (nI n2), .int P2, .ref h1, .ref h2])), (h1, .inl (cI, 50, .inl (va_cpy F2 F 0 0 50))), (h2, .inl (cI, 6, .inl G)), (k0, .inr (0, [.int (nI n2), .int P2, .ref k1, .ref k2])), (k1, .inl (cI, 50, .inl F2)), (k2, .inl (cI, 6, .inl G2))] H := hP
  have hD : va_D AM [(h0, .inr (0, [.int (nI n2), .int P2, .ref h1, .ref h2])), (h1, .inl (cI, 50, .inl (va_cpy F2 F 0 0 50))), (h2, .inl (cI, 6, .inl G)), (k0, .inr (0, [.int (nI n2), .int P2, .ref k1, .ref k2])), (k1, .inl (cI, 50, .inl F2)), (k2, .inl (cI, 6, .inl G2))] := hD
  refine lv_aload_n hx hb dX0_copyFrom_31 rfl (lv_at hl 1 rfl) ?_
  refine va_get (D := D) (ci := 0) (v := .ref k2) (C := RX0) (T := TX0) (N := 4) hx hb hts in_X0_copyFrom_0 hown hK hP 3 rfl rfl 3 (by decide) (hts (.fieldLink RX0 22 "HoseSpans$Line" "settings" "[I") (List.mem_of_getElem? (i := 8) (by decide +kernel))) (fun _ h9 => h9) rfl dX0_copyFrom_32 ?_
  refine lv_iconst (v := 0) hx hb dX0_copyFrom_35 (by decide) ?_
  refine lv_aload_n hx hb dX0_copyFrom_36 rfl (lv_at hl 0 rfl) ?_
  refine va_get (D := D) (ci := 0) (v := .ref h2) (C := RX0) (T := TX0) (N := 4) hx hb hts in_X0_copyFrom_0 hown hK hP 0 rfl rfl 3 (by decide) (hts (.fieldLink RX0 22 "HoseSpans$Line" "settings" "[I") (List.mem_of_getElem? (i := 8) (by decide +kernel))) (fun _ h9 => h9) rfl dX0_copyFrom_37 ?_
  refine lv_iconst (v := 0) hx hb dX0_copyFrom_40 (by decide) ?_
  refine lv_bipush (v := 6) hx hb dX0_copyFrom_41 (by decide) ?_
  refine va_copyi hx hb (by rw [hml]; exact hl.1.symm) hown (hts (.methodLink RX0 28 arraycopyName) (List.mem_of_getElem? (i := 4) (by decide +kernel))) (hts (.native arraycopyName) (List.mem_of_getElem? (i := 5) (by decide +kernel))) (hts (.static arraycopyName) (List.mem_of_getElem? (i := 6) (by decide +kernel))) (hts (.initialized RJ10) (List.mem_of_getElem? (i := 7) (by decide +kernel))) hK hP hD hS 5 2 0 0 rfl rfl rfl rfl rfl (by decide) (by decide) (by decide) (by decide) (by decide) (fun _ _ => rfl) (Nat.le_of_ble_eq_true rfl) (Nat.le_of_ble_eq_true rfl) dX0_copyFrom_43 (fun H locs hP hD hS => ?_)
  have hP : va_P D vwCl [(h0, .inr (0, [.int (nI n2), .int P2, .ref h1, .ref h2])), (h1, .inl (cI, 50, .inl (va_cpy F2 F 0 0 50))), (h2, .inl (cI, 6, .inl (va_cpy G2 G 0 0 6))), (k0, .inr (0, [.int (nI n2), .int P2, .ref k1, .ref k2])), (k1, .inl (cI, 50, .inl F2)), (k2, .inl (cI, 6, .inl G2))] H := hP
  have hD : va_D AM [(h0, .inr (0, [.int (nI n2), .int P2, .ref h1, .ref h2])), (h1, .inl (cI, 50, .inl (va_cpy F2 F 0 0 50))), (h2, .inl (cI, 6, .inl (va_cpy G2 G 0 0 6))), (k0, .inr (0, [.int (nI n2), .int P2, .ref k1, .ref k2])), (k1, .inl (cI, 50, .inl F2)), (k2, .inl (cI, 6, .inl G2))] := hD
  obtain ⟨hP, hD⟩ := e_ext 1 F2 hP hD rfl (fun j hj => cpy_all hj)
  obtain ⟨hP, hD⟩ := e_ext 2 G2 hP hD rfl (fun j hj => cpy_all hj)
  have hP : va_P D vwCl [(h0, .inr (0, [.int (nI n2), .int P2, .ref h1, .ref h2])), (h1, .inl (cI, 50, .inl F2)), (h2, .inl (cI, 6, .inl G2)), (k0, .inr (0, [.int (nI n2), .int P2, .ref k1, .ref k2])), (k1, .inl (cI, 50, .inl F2)), (k2, .inl (cI, 6, .inl G2))] H := hP
  have hD : va_D AM [(h0, .inr (0, [.int (nI n2), .int P2, .ref h1, .ref h2])), (h1, .inl (cI, 50, .inl F2)), (h2, .inl (cI, 6, .inl G2)), (k0, .inr (0, [.int (nI n2), .int P2, .ref k1, .ref k2])), (k1, .inl (cI, 50, .inl F2)), (k2, .inl (cI, 6, .inl G2))] := hD
  refine e_v (u := ()) hx hb hr hlocks hP hD hS dX0_copyFrom_46 ?_ ?_
  · rfl
  · trivial
end
