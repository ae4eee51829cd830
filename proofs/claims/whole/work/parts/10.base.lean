/-! THE BASE: what every contract of this claim carries; a method's start and end; a call in one row. -/
abbrev tyL (cI cB cO : ClassId) : List (ClassId × FieldType) := [(cI, .int), (cB, .byte), (cO, .object "HoseSpans$Line")]
def kHard (j : Nat) : Int32 := ([80, 20, 8, 2] : List Int32).getD j 0
def kStands (j : Nat) : Int32 := ([100, 120, 150, 180] : List Int32).getD j 0
def kFirst (j : Nat) : Int32 := ([10, 20, 30, 100, 5, 0] : List Int32).getD j 0
def kLow (j : Nat) : Int32 := ([1, 0, 0, 20, 0, 0] : List Int32).getD j 0
def kHigh (j : Nat) : Int32 := ([30, 100, 100, 180, 20, 99] : List Int32).getD j 0
/-- a static array: the static holds it, and what it holds -/
def sArr (n : String) (N : Nat) (f : Nat → Int32) (A : Nat → Prop) (U : State) (H : Heap) : Prop := ∃ t : Nat, va_Z "HoseSpans" n "[I" (.ref t) A U H ∧ va_T .int t N (fun j => .int (f j)) A U H
def Stt (A : Nat → Prop) (U : State) (H : Heap) : Prop := sArr "HARD" 4 kHard A U H ∧ sArr "STANDS" 4 kStands A U H ∧ sArr "SETTING_AT_FIRST" 6 kFirst A U H ∧ sArr "SETTING_LOWEST" 6 kLow A U H ∧ sArr "SETTING_HIGHEST" 6 kHigh A U H
theorem sArr.to {n : String} {N : Nat} {f : Nat → Int32} {A0 B : Nat → Prop} {s U : State} {H : Heap} {locs : List Loc} (h : sArr n N f A0 s s.heap) (hS : va_S A0 s.heap H locs) (hvm : s.vm.Alike U.vm) (hAB : ∀ q, B q → A0 q) : sArr n N f B U H := by
  obtain ⟨t, h1, h2⟩ := h
  exact ⟨t, ((h1.kept hS.2.1).moved hvm).narrow hAB, ((h2.kept hS.2.1).moved hvm).narrow hAB⟩
theorem Stt.to {A0 B : Nat → Prop} {s U : State} {H : Heap} {locs : List Loc} (h : Stt A0 s s.heap) (hS : va_S A0 s.heap H locs) (hvm : s.vm.Alike U.vm) (hAB : ∀ q, B q → A0 q) : Stt B U H :=
  ⟨h.1.to hS hvm hAB, h.2.1.to hS hvm hAB, h.2.2.1.to hS hvm hAB, h.2.2.2.1.to hS hvm hAB, h.2.2.2.2.to hS hvm hAB⟩
/-- what nest mates link, and the class of the rows of lines -/
def Nst (U : State) : Prop :=
  va_Nw (.methodLinkNest RX0 34 yX4_within RX4) U ∧ va_Nw (.methodLinkNest RX3 54 yX4_within RX4) U ∧
  va_Nw (.methodLinkNest RX4 41 yX3_init RX4) U ∧ va_Nw (.methodLinkNest RX4 48 yX2_init RX4) U ∧ va_Nw (.methodLinkNest RX4 55 yX1_init RX4) U ∧
  va_Nw (.fieldLinkNest RX0 25 "HoseSpans" "SETTING_AT_FIRST" "[I" "HoseSpans") U ∧ va_Nw (.fieldLinkNest RX0 45 "HoseSpans" "SETTING_LOWEST" "[I" "HoseSpans") U ∧ va_Nw (.fieldLinkNest RX0 48 "HoseSpans" "SETTING_HIGHEST" "[I" "HoseSpans") U ∧
  va_Nw (.fieldLinkNest RX0 71 "HoseSpans" "HARD" "[I" "HoseSpans") U ∧ va_Nw (.fieldLinkNest RX0 74 "HoseSpans" "STANDS" "[I" "HoseSpans") U ∧ va_AO "HoseSpans$Line" U
theorem Nst.warm {s U : State} (hW : s.WarmedH U.vm) (h : Nst s) : Nst U := by
  obtain ⟨h1, h2, h3, h4, h5, h6, h7, h8, h9, h10, h11⟩ := h
  exact ⟨va_Nw.warmM hW h1, va_Nw.warmM hW h2, va_Nw.warmM hW h3, va_Nw.warmM hW h4, va_Nw.warmM hW h5, va_Nw.warmF hW h6, va_Nw.warmF hW h7, va_Nw.warmF hW h8, va_Nw.warmF hW h9, va_Nw.warmF hW h10, h11.moved hW.alike⟩
def Sta (A : Nat → Prop) (U : State) (H : Heap) : Prop := Nst U ∧ Stt A U H
def cPre (D : va_G) (tys : List (ClassId × FieldType)) (av : List Value) (w0 : va_W) (sz : Nat) : Array Value → State → Prop := va_Pc av (fun U => U.heap.size = sz ∧ va_P D vwCl w0 U.heap ∧ va_K D vwCl tys U ∧ va_D (fun _ => True) w0 ∧ Sta (va_A w0 sz) U U.heap)
theorem cPre_blind {D : va_G} {tys : List (ClassId × FieldType)} {av : List Value} {w0 : va_W} {sz : Nat} : FrameBlind (cPre D tys av w0 sz) := by
  intro a U g mk h
  obtain ⟨h1, h2, h3, h4, h5, h6, h7⟩ := h
  have hvm : U.vm.Alike (U.calling g mk a).vm := Vm.Alike.refl U.vm
  refine ⟨h1, h2, h3, va_K.moved (u := U) (U := U.calling g mk a) hvm h4, h5, ?_, ?_⟩
  · obtain ⟨g1, g2, g3, g4, g5, g6, g7, g8, g9, g10, g11⟩ := h6
    exact ⟨g1.same rfl rfl, g2.same rfl rfl, g3.same rfl rfl, g4.same rfl rfl, g5.same rfl rfl, g6.same rfl rfl, g7.same rfl rfl, g8.same rfl rfl, g9.same rfl rfl, g10.same rfl rfl, g11.moved hvm⟩
  · exact h7.to (A0 := va_A w0 sz) (s := U) (U := U.calling g mk a) va_S.rf hvm (fun _ h => h)
theorem fm_of {α : Type} {f : Nat → Option α} : ∀ (is : List Nat) (ws : List α), is.map f = ws.map some → is.filterMap f = ws
  | [], [], _ => rfl
  | [], _ :: _, h => by simp at h
  | _ :: _, [], h => by simp at h
  | i :: is, w :: ws, h => by
    simp only [List.map_cons, List.cons.injEq] at h
    rw [List.filterMap_cons, h.1]
    exact congrArg (w :: ·) (fm_of is ws h.2)
theorem preS_of {D : va_G} {tys : List (ClassId × FieldType)} {s : State} {H : Heap} {locs : List Loc} {A0 : Nat → Prop} {w wc : va_W} {As : List Value} (hK : va_K D vwCl tys s) (hP : va_P D vwCl w H) (hD : va_D A0 w) (hS : va_S A0 s.heap H locs) (hA : ∀ q, s.heap.size ≤ q → A0 q) (hSt : Sta A0 s s.heap) (isC : List Nat) (hn : va_nd isC = true) (hC : isC.map (fun i => w[i]?) = wc.map some) : PreS s H (cPre D tys As wc H.size) As := by
  refine ⟨cPre_blind, fun U hU hW => ⟨rfl, by rw [hU], by rw [hU]; exact hP.sub isC (fm_of _ _ hC), va_K.moved hW.alike hK, (hD.sub isC hn hC).weaken (fun _ _ _ _ => trivial), hSt.1.warm hW, ?_⟩⟩
  rw [hU]
  exact hSt.2.to hS hW.alike (va_free hD hS hA isC hC)
theorem preV_of {D : va_G} {tys : List (ClassId × FieldType)} {s : State} {H : Heap} {locs : List Loc} {A0 : Nat → Prop} {w wc : va_W} {b : Addr} {As : List Value} (hK : va_K D vwCl tys s) (hP : va_P D vwCl w H) (hD : va_D A0 w) (hS : va_S A0 s.heap H locs) (hA : ∀ q, s.heap.size ≤ q → A0 q) (hSt : Sta A0 s s.heap) (isC : List Nat) (hn : va_nd isC = true) (hC : isC.map (fun i => w[i]?) = wc.map some) (q0 : Nat) {ci : Nat} {q : vw_C} {fs : List Value} (hc : vwCl[ci]? = some q) (he : w[q0]? = some (b, .inr (ci, fs))) : PreV s H q.1 b (cPre D tys (.ref b :: As) wc H.size) As :=
  ⟨cPre_blind, va_recv hK hP hc he, (preS_of (As := .ref b :: As) hK hP hD hS hA hSt isC hn hC).2⟩
/-- the ends, by what is answered -/
abbrev QI {S : Type} (D : va_G) (post : Int32 → S → Prop) (w1 : S → va_W) (A : Nat → Prop) : Array Value → State → Outcome → State → Prop := va_Qi post (fun u t => va_P D vwCl (w1 u) t.heap ∧ va_D A (w1 u)) A
abbrev QV {S : Type} (D : va_G) (post : S → Prop) (w1 : S → va_W) (A : Nat → Prop) : Array Value → State → Outcome → State → Prop := va_Qv post (fun u t => va_P D vwCl (w1 u) t.heap ∧ va_D A (w1 u)) A
abbrev QL {S : Type} (D : va_G) (post : Int64 → S → Prop) (w1 : S → va_W) (A : Nat → Prop) : Array Value → State → Outcome → State → Prop := va_Ql post (fun u t => va_P D vwCl (w1 u) t.heap ∧ va_D A (w1 u)) A
/-- contracts: with the answer an int, none, a long -/
abbrev CI {S : Type} (l : Launch) (y : MethodName) (ws : List Cond) (rm : Room) (D : va_G) (tys : List (ClassId × FieldType)) (av : List Value) (w0 : va_W) (sz : Nat) (post : Int32 → S → Prop) (w1 : S → va_W) (mc ms : Nat) : Prop := Met l y ws rm (cPre D tys av w0 sz) (QI D post w1 (va_A w0 sz)) mc ms (va_A w0 sz)
abbrev CV {S : Type} (l : Launch) (y : MethodName) (ws : List Cond) (rm : Room) (D : va_G) (tys : List (ClassId × FieldType)) (av : List Value) (w0 : va_W) (sz : Nat) (post : S → Prop) (w1 : S → va_W) (mc ms : Nat) : Prop := Met l y ws rm (cPre D tys av w0 sz) (QV D post w1 (va_A w0 sz)) mc ms (va_A w0 sz)
abbrev CL {S : Type} (l : Launch) (y : MethodName) (ws : List Cond) (rm : Room) (D : va_G) (tys : List (ClassId × FieldType)) (av : List Value) (w0 : va_W) (sz : Nat) (post : Int64 → S → Prop) (w1 : S → va_W) (mc ms : Nat) : Prop := Met l y ws rm (cPre D tys av w0 sz) (QL D post w1 (va_A w0 sz)) mc ms (va_A w0 sz)
/-- a method's start -/
theorem ct_of {l : Launch} {y : MethodName} {ws ws' : List Cond} {rm : Room} {D : va_G} {tys : List (ClassId × FieldType)} {av : List Value} {w0 : va_W} {sz : Nat} {Qc : (Nat → Prop) → Array Value → State → Outcome → State → Prop} {mc ms : Nat} {cc : ByteArray} {maxL : Nat} {ret : Option FieldType} {own : String} (hy : plainName y.cls = true) (hw : ws = Cond.code y cc maxL ret :: ws') (ho : y.cls = own) (hav : (lg_sl av).length ≤ maxL)
    (k : ∀ (p : Program) (e : Env) (s : State) (m : MethodId) (below : List Frame) (meth : Method) (c : Code) (A : Nat → Prop) (ls : Array Slot) (H : Heap) (locs : List Loc), p.tables.exec = Jvm.exec → c.code = cc → meth.sig.returnType = ret → (∀ w ∈ ws, w.before av.toArray s = true) → s.vm.findClass own = some m.cls → meth.locks = false → c.maxLocals = maxL → meth.name = y.name →
      va_K D vwCl tys s → va_P D vwCl w0 H → va_D A w0 → va_S A s.heap H locs → (∀ q : Nat, s.heap.size ≤ q → A q) → Sta A s s.heap → lv_has ls maxL (lv_args 0 av) → W p l e rm s m av.toArray below meth c H locs 0 0 (MQ below (Qc A) av.toArray s mc ms A) (F0 m 0 ls [])) : Met l y ws rm (cPre D tys av w0 sz) (Qc (va_A w0 sz)) mc ms (va_A w0 sz) := by
  refine Met.ofW (cc := cc) (maxL := maxL) (ret := ret) hy hw ?_
  intro p e s m args below meth c s₁ B hml hv
  obtain ⟨rfl, hsz, hP, hK, hD0, hSt⟩ := hv
  subst hsz
  have hD := hD0.self (sz := s.heap.size)
  have hown : s.vm.findClass own = some m.cls := by rw [← ho]; exact findClass_of_methodNamed B.named
  rw [lg_entry_eq]
  exact k p e s m below meth c _ _ _ _ B.exec B.bytes B.returns (atoms_spec B.pre) hown B.notSynchronized hml (name_of_methodNamed B.named B.method).1 hK hP hD va_S.rf (fun q h => Or.inr h) hSt (lv_entry av hav)
section ENDS
variable {p : Program} {l : Launch} {e : Env} {R : Room} {s : State} {m : MethodId} {args : Array Value} {below : List Frame} {meth : Method} {c : Code} {H : Heap} {locs : List Loc} {cells slots : Nat} {Q : State → Prop}
variable {cc : ByteArray} {pc : Nat} {ls : Array Slot} {rest st0 : List Value} {D : va_G} {A : Nat → Prop} {w : va_W}
theorem e_i {S : Type} {post : Int32 → S → Prop} {w1 : S → va_W} {v : Int32} (u : S) (hx : p.tables.exec = Jvm.exec) (hb : c.code = cc) (hr : meth.sig.returnType = some .int) (hlocks : meth.locks = false) (hP : va_P D vwCl w H) (hD : va_D A w) (hS : va_S A s.heap H locs) (hdg : decode cc pc = .ok (.ireturn, 1)) (hw : w = w1 u) (hp : post v u) : W p l e R s m args below meth c H locs cells slots (MQ below (QI D post w1 A) args s cells slots A) (F0 m pc ls [.int v]) :=
  W.iret hx hb hr (fun t ht _ => ⟨⟨v, u, rfl, hp, by rw [ht, ← hw]; exact hP, hw ▸ hD⟩, hS.F ht⟩) hS.2.2 hdg hlocks
theorem e_z {S : Type} {post : Int32 → S → Prop} {w1 : S → va_W} {v : Int32} {ty : FieldType} (u : S) (hx : p.tables.exec = Jvm.exec) (hb : c.code = cc) (hr : meth.sig.returnType = some ty) (hn : narrow ty (.int v) = .int v) (hlocks : meth.locks = false) (hP : va_P D vwCl w H) (hD : va_D A w) (hS : va_S A s.heap H locs) (hdg : decode cc pc = .ok (.ireturn, 1)) (hw : w = w1 u) (hp : post v u) : W p l e R s m args below meth c H locs cells slots (MQ below (QI D post w1 A) args s cells slots A) (F0 m pc ls [.int v]) :=
  W.zret hx hb hr hn (fun t ht _ => ⟨⟨v, u, rfl, hp, by rw [ht, ← hw]; exact hP, hw ▸ hD⟩, hS.F ht⟩) hS.2.2 hdg hlocks
theorem e_l {S : Type} {post : Int64 → S → Prop} {w1 : S → va_W} {v : Int64} (u : S) (hx : p.tables.exec = Jvm.exec) (hb : c.code = cc) (hr : meth.sig.returnType = some .long) (hlocks : meth.locks = false) (hP : va_P D vwCl w H) (hD : va_D A w) (hS : va_S A s.heap H locs) (hdg : decode cc pc = .ok (.lreturn, 1)) (hw : w = w1 u) (hp : post v u) : W p l e R s m args below meth c H locs cells slots (MQ below (QL D post w1 A) args s cells slots A) (F0 m pc ls [.long v]) :=
  W.lret hx hb hr (fun t ht _ => ⟨⟨v, u, rfl, hp, by rw [ht, ← hw]; exact hP, hw ▸ hD⟩, hS.F ht⟩) hS.2.2 hdg hlocks
theorem e_v {S : Type} {post : S → Prop} {w1 : S → va_W} (u : S) (hx : p.tables.exec = Jvm.exec) (hb : c.code = cc) (hr : meth.sig.returnType = none) (hlocks : meth.locks = false) (hP : va_P D vwCl w H) (hD : va_D A w) (hS : va_S A s.heap H locs) (hdg : decode cc pc = .ok (.return_, 1)) (hw : w = w1 u) (hp : post u) : W p l e R s m args below meth c H locs cells slots (MQ below (QV D post w1 A) args s cells slots A) (F0 m pc ls []) :=
  W.vret hx hb hr (fun t ht _ => ⟨⟨u, rfl, hp, by rw [ht, ← hw]; exact hP, hw ▸ hD⟩, hS.F ht⟩) hS.2.2 hdg hlocks
/-- a number on the stack told otherwise -/
theorem e_n {x y : Int32} (h : x = y) (k : W p l e R s m args below meth c H locs cells slots Q (F0 m pc ls (.int y :: rest))) : W p l e R s m args below meth c H locs cells slots Q (F0 m pc ls (.int x :: rest)) := h ▸ k
/-- the way back from a call: the caller's world with the callee's new cells in it -/
theorem e_join {wc wr w1 w2 : va_W} {H1 : Heap} (hP : va_P D vwCl w H) (hD : va_D A w) (hS : va_S A s.heap H locs) (hA : ∀ q, s.heap.size ≤ q → A q) (isC isR pm : List Nat) (hC : isC.map (fun i => w[i]?) = wc.map some) (hR : isR.map (fun i => w[i]?) = wr.map some) (hn : va_nd isR = true) (hdis : ∀ i ∈ isR, i ∉ isC) (hk : ∀ q : Nat, q < H.size → ¬ va_A wc H.size q → H1[q]? = H[q]?) (hP1 : va_P D vwCl w1 H1) (hD1 : va_D (va_A wc H.size) w1) (hpn : va_nd pm = true) (hp : pm.map (fun i => (wr ++ w1)[i]?) = w2.map some) : va_P D vwCl w2 H1 ∧ va_D A w2 := by
  obtain ⟨h1, h2⟩ := va_join hP hD isC isR hC hR hn hdis hk (va_free hD hS hA isC hC) hP1 hD1
  exact ⟨h1.sub pm (fm_of _ _ hp), h2.sub pm hpn hp⟩
variable {mc ms : Nat} {a : Array Value}
theorem k_i {S : Type} {post : Int32 → S → Prop} {w1 : S → va_W} {wc : va_W} (hr : va_Run p l e R s m args below meth c H locs cells slots mc ms (F0 m pc ls st0) rest (QI D post w1 (va_A wc H.size) a) (va_A wc H.size)) (hP : va_P D vwCl w H) (hD : va_D A w) (hS : va_S A s.heap H locs) (hA : ∀ q, s.heap.size ≤ q → A q) (isC isR pm : List Nat) (wr : va_W) (w2 : S → va_W) (hC : isC.map (fun i => w[i]?) = wc.map some) (hR : isR.map (fun i => w[i]?) = wr.map some) (hn : va_nd isR = true) (hdis : ∀ i ∈ isR, i ∉ isC) (hpn : va_nd pm = true) (hp : ∀ u, pm.map (fun i => (wr ++ w1 u)[i]?) = (w2 u).map some)
    (kk : ∀ (r : Int32) (u : S) (H1 : Heap) (locs1 : List Loc), post r u → va_P D vwCl (w2 u) H1 → va_D A (w2 u) → va_S A s.heap H1 locs1 → W p l e R s m args below meth c H1 locs1 (cells + mc) (slots + ms) Q (F0 m (pc + 3) ls (.int r :: rest))) : W p l e R s m args below meth c H locs cells slots Q (F0 m pc ls st0) := by
  have hF := va_free hD hS hA isC hC
  refine va_calli hr hS (fun q _ h => hF q h) hF (fun r u t H1 locs1 ht hvm hw hB hz hk hS1 => ?_)
  rw [ht] at hB
  obtain ⟨j1, j2⟩ := e_join hP hD hS hA isC isR pm hC hR hn hdis hk hB.1 hB.2 hpn (hp u)
  exact kk r u H1 locs1 hw j1 j2 hS1
theorem k_l {S : Type} {post : Int64 → S → Prop} {w1 : S → va_W} {wc : va_W} (hr : va_Run p l e R s m args below meth c H locs cells slots mc ms (F0 m pc ls st0) rest (QL D post w1 (va_A wc H.size) a) (va_A wc H.size)) (hP : va_P D vwCl w H) (hD : va_D A w) (hS : va_S A s.heap H locs) (hA : ∀ q, s.heap.size ≤ q → A q) (isC isR pm : List Nat) (wr : va_W) (w2 : S → va_W) (hC : isC.map (fun i => w[i]?) = wc.map some) (hR : isR.map (fun i => w[i]?) = wr.map some) (hn : va_nd isR = true) (hdis : ∀ i ∈ isR, i ∉ isC) (hpn : va_nd pm = true) (hp : ∀ u, pm.map (fun i => (wr ++ w1 u)[i]?) = (w2 u).map some)
    (kk : ∀ (r : Int64) (u : S) (H1 : Heap) (locs1 : List Loc), post r u → va_P D vwCl (w2 u) H1 → va_D A (w2 u) → va_S A s.heap H1 locs1 → W p l e R s m args below meth c H1 locs1 (cells + mc) (slots + ms) Q (F0 m (pc + 3) ls (.long r :: rest))) : W p l e R s m args below meth c H locs cells slots Q (F0 m pc ls st0) := by
  have hF := va_free hD hS hA isC hC
  refine va_calll hr hS (fun q _ h => hF q h) hF (fun r u t H1 locs1 ht hvm hw hB hz hk hS1 => ?_)
  rw [ht] at hB
  obtain ⟨j1, j2⟩ := e_join hP hD hS hA isC isR pm hC hR hn hdis hk hB.1 hB.2 hpn (hp u)
  exact kk r u H1 locs1 hw j1 j2 hS1
theorem k_v {S : Type} {post : S → Prop} {w1 : S → va_W} {wc : va_W} (hr : va_Run p l e R s m args below meth c H locs cells slots mc ms (F0 m pc ls st0) rest (QV D post w1 (va_A wc H.size) a) (va_A wc H.size)) (hP : va_P D vwCl w H) (hD : va_D A w) (hS : va_S A s.heap H locs) (hA : ∀ q, s.heap.size ≤ q → A q) (isC isR pm : List Nat) (wr : va_W) (w2 : S → va_W) (hC : isC.map (fun i => w[i]?) = wc.map some) (hR : isR.map (fun i => w[i]?) = wr.map some) (hn : va_nd isR = true) (hdis : ∀ i ∈ isR, i ∉ isC) (hpn : va_nd pm = true) (hp : ∀ u, pm.map (fun i => (wr ++ w1 u)[i]?) = (w2 u).map some)
    (kk : ∀ (u : S) (H1 : Heap) (locs1 : List Loc), post u → va_P D vwCl (w2 u) H1 → va_D A (w2 u) → va_S A s.heap H1 locs1 → W p l e R s m args below meth c H1 locs1 (cells + mc) (slots + ms) Q (F0 m (pc + 3) ls rest)) : W p l e R s m args below meth c H locs cells slots Q (F0 m pc ls st0) := by
  have hF := va_free hD hS hA isC hC
  refine va_callv hr hS (fun q _ h => hF q h) hF (fun u t H1 locs1 ht hvm hw hB hz hk hS1 => ?_)
  rw [ht] at hB
  obtain ⟨j1, j2⟩ := e_join hP hD hS hA isC isR pm hC hR hn hdis hk hB.1 hB.2 hpn (hp u)
  exact kk u H1 locs1 hw j1 j2 hS1
end ENDS
/-! numbers -/
def bI (b : Bool) : Int32 := if b then 1 else 0
theorem bI_nar (b : Bool) : narrow .boolean (.int (bI b)) = .int (bI b) := by cases b <;> rfl
theorem bI_0 {b : Bool} : bI b = 0 ↔ b = false := by cases b <;> simp [bI]
theorem bI_n0 {b : Bool} : ¬ bI b = 0 ↔ b = true := by cases b <;> simp [bI]
/-- v is from lo to hi -/
def inR (v lo hi : Int32) : Bool := decide (lo ≤ v) && decide (v ≤ hi)
theorem inR_t {v lo hi : Int32} : inR v lo hi = true ↔ lo ≤ v ∧ v ≤ hi := by simp [inR]
theorem inR_f {v lo hi : Int32} : inR v lo hi = false ↔ ¬ (lo ≤ v ∧ v ≤ hi) := by
  rw [← inR_t]; cases inR v lo hi <;> simp
theorem inR_nI {v hi : Int32} {n : Nat} (hn : hi.toInt = n) (h : inR v 0 hi = true) : ∃ j : Nat, j ≤ n ∧ v = nI j := by
  obtain ⟨h1, h2⟩ := inR_t.mp h
  exact nI_of2 hn (Int32.not_lt.mpr h1) h2
theorem ne_ti {x y : Int32} {n : Int} (hn : y.toInt = n) (h : ¬ x = y) : x.toInt ≠ n := fun q => h (Int32.toInt_inj.mp (q.trans hn.symm))
section MAKE
variable {p : Program} {l : Launch} {e : Env} {R : Room} {s : State} {m : MethodId} {args : Array Value} {below : List Frame} {meth : Method} {c : Code} {H : Heap} {locs : List Loc} {cells slots : Nat} {Q : State → Prop}
variable {cc : ByteArray} {pc : Nat} {ls : Array Slot} {rest : List Value} {D : va_G} {cl : List vw_C} {A : Nat → Prop} {a : Nat} {tys : List (ClassId × FieldType)} {ws : va_W} {H0 : Heap}
/-- a new row of numbers, its class the known one -/
theorem k_newa (hexec : p.tables.exec = Jvm.exec) (hb : c.code = cc) {atype : ArrayType} (harr : (Cond.arrayClass (newarray.typeOf atype)).before args s = true) {ty : FieldType} (hty : newarray.typeOf atype = ty) {N : Nat} (ha : ∀ cA : ClassId, vp_cell cA (N, .inl (fun _ => 0)) = arrV cA N (fun _ => defaultValue ty)) (hK : va_K D cl tys s) (hP : va_P D cl ws H) (hD : va_D A ws) (hS : va_S A H0 H locs) (hA : ∀ q, H0.size ≤ q → A q) (t0 : Nat) {c0 : ClassId} (ht : tys[t0]? = some (c0, ty)) (hRA : ∀ (U : State) (k : ClassId), va_RA U k ty → U.vm.findClass ("[" ++ ty.toString) = some k)
    {n : Int32} (hn : ¬ n < 0) (hN : n.toNatClampNeg = N) (hbytes : N * componentBytes ty ≤ 536870912) (hcells : cells + 1 ≤ R.cells) (hslots : slots + N ≤ R.slots) (hdg : decode cc pc = .ok (.newarray atype, 2))
    (kk : ∀ (q : Nat) (H1 : Heap), va_P D cl (ws ++ [(q, .inl (c0, N, .inl (fun _ => 0)))]) H1 → va_D A (ws ++ [(q, .inl (c0, N, .inl (fun _ => 0)))]) → va_S A H0 H1 locs →
      W p l e R s m args below meth c H1 locs (cells + 1) (slots + N) Q (F0 m (pc + 2) ls (.ref q :: rest))) : W p l e R s m args below meth c H locs cells slots Q (F0 m pc ls (.int n :: rest)) := by
  refine va_newa (a0 := (N, .inl (fun _ => 0))) hexec hb harr hty hK hP hD hS hA ha hn hN hbytes hcells hslots hdg (fun q cA H1 hK1 hP1 hD1 hS1 => ?_)
  have e1 := hRA s c0 (hK.2 t0 _ ht).2
  have e2 := hRA s cA (hK1.2 tys.length (cA, ty) (by simp)).2
  have e3 : cA = c0 := Option.some.inj (e2.symm.trans e1)
  subst e3
  exact kk q H1 hP1 hD1 hS1
/-- System.arraycopy of ints out of a static array -/
theorem k_copyT {cc : ByteArray} (hexec : p.tables.exec = Jvm.exec) (hb : c.code = cc) (hml : c.maxLocals = ls.size) {own : String} {index : Nat} (hown : s.vm.findClass own = some m.cls) (hlink : (Cond.methodLink own index arraycopyName).before args s = true) (hnat : (Cond.native arraycopyName).before args s = true) (hstat : (Cond.static arraycopyName).before args s = true) (hini : (Cond.initialized "java/lang/System").before args s = true)
    (hK : va_K D cl tys s) (hP : va_P D cl ws H) (hD : va_D A ws) (hS : va_S A s.heap H locs) {b0 n0 : Nat} {f : Nat → Int32} (hX : va_T .int b0 n0 (fun j => .int (f j)) A s s.heap) (q1 t1 : Nat) {c1 : ClassId} {n1 : Nat} {g : Nat → Int32} (ha1 : ws[q1]? = some (a, .inl (c1, n1, .inl g))) (ht1 : tys[t1]? = some (c1, .int))
    {sp dp n : Int32} (h1 : ¬ sp < 0) (h2 : ¬ dp < 0) (h3 : ¬ n < 0) (h4 : sp.toNatClampNeg + n.toNatClampNeg ≤ n0) (h5 : dp.toNatClampNeg + n.toNatClampNeg ≤ n1)
    (hframes : 1 ≤ R.frames) (hlocals : (rest.map fun v => v.category).sum + (nativeFrameWords "java/lang/System" "arraycopy" 5 + 11) ≤ R.locals) (hdg : decode cc pc = .ok (.invokestatic index, 3))
    (kk : ∀ (H1 : Heap) (locs1 : List Loc), va_P D cl (ws.set q1 (a, .inl (c1, n1, .inl (va_cpy f g sp.toNatClampNeg dp.toNatClampNeg n.toNatClampNeg)))) H1 → va_D A (ws.set q1 (a, .inl (c1, n1, .inl (va_cpy f g sp.toNatClampNeg dp.toNatClampNeg n.toNatClampNeg)))) → va_S A s.heap H1 locs1 → W p l e R s m args below meth c H1 locs1 cells slots Q (F0 m (pc + 3) ls rest)) : W p l e R s m args below meth c H locs cells slots Q (F0 m pc ls (.int n :: .int dp :: .ref a :: .int sp :: .ref b0 :: rest)) := by
  have up : ∀ z : Int32, ¬ z < 0 → z.toInt = (z.toNatClampNeg : Int) := fun z hz => by
    have h0 : (0 : Int) ≤ z.toInt := by simpa using Int32.le_iff_toInt_le.mp (Int32.not_lt.mp hz)
    show z.toInt = ((z.toInt.toNat : Nat) : Int)
    omega
  intro T hT X
  obtain ⟨scr, g1, g2, g3, g4, -, g5, g7⟩ := hX
  obtain ⟨g6, k0, hk0, cm0, hkk0⟩ := g2
  have hc0 : H[b0]? = some scr := (hS.2.1 b0 (Array.getElem?_eq_some_iff.mp g1).1 g7).trans g1
  have hc1 : H[a]? = some (vp_cell c1 (n1, .inl g)) := hP q1 _ ha1
  obtain ⟨-, k1, hk1, cm1, hkk1⟩ := (hK.2 t1 _ ht1).1 n1 (fun j => .int (g j))
  have hel : ∀ i : Nat, i < n.toNatClampNeg → scr.slots.getD (sp.toNatClampNeg + i) .null = .int (f (sp.toNatClampNeg + i)) := fun i hi => by
    rw [Array.getD_eq_getD_getElem?, g5 _ (by omega)]
    rfl
  obtain ⟨vm', X', step⟩ := X.arraycopy hexec hown hlink hnat hstat hini (src := b0) (dst := a) (cs := scr) (cd := vp_cell c1 (n1, .inl g)) (srcPos := sp) (destPos := dp) (n := n) (by rw [hT]; exact hc0) (by rw [hT]; exact hc1)
    g6 (fun _ h => by cases h) g3 (fun h => by cases h) hk0 hk1 hkk0 hkk1 (by simp [refKind]) h1 h2 h3
    (by rw [up sp h1, up n h3]; omega)
    (by rw [up dp h2, up n h3]; show ¬ _ > ((arrV c1 n1 (fun j => .int (g j))).slots.size : Int); rw [arrV_size]; omega)
    (fun vm₁ _ i hi => by rw [hel i hi]; exact ⟨rfl, trivial⟩)
    (g := F0 m pc ls (.int n :: .int dp :: .ref a :: .int sp :: .ref b0 :: rest)) rfl (by rw [hml]) (rest := rest) rfl (by rw [hb]; exact hdg) hframes (by show 2 * 0 + _ + _ ≤ _; omega)
  rw [show copied scr (vp_cell c1 (n1, .inl g)) sp dp n = vp_cell c1 (n1, .inl (va_cpy f g sp.toNatClampNeg dp.toNatClampNeg n.toNatClampNeg)) from va_copiedX (fun z => .int z) scr c1 f g g5 h4] at X' step
  have hl : a < H.size := (Array.getElem?_eq_some_iff.mp hc1).1
  generalize hE : vp_cell c1 (n1, .inl (va_cpy f g sp.toNatClampNeg dp.toNatClampNeg n.toNatClampNeg)) = E at X' step
  have oq : ∀ q : Nat, q ≠ a → (H.setIfInBounds a E)[q]? = H[q]? := fun q hq => by simp [Array.getElem?_setIfInBounds, Ne.symm hq]
  have hE1 : (H.setIfInBounds a E)[a]? = some (vp_cell c1 (n1, .inl (va_cpy f g sp.toNatClampNeg dp.toNatClampNeg n.toNatClampNeg))) := by rw [hE]; simp [Array.getElem?_setIfInBounds, hl]
  have hA1 : A a := hD.2 q1 _ ha1
  obtain ⟨t, a1, b1⟩ := kk _ _ (hP.set hD ha1 hE1 oq) (hD.set ha1) ⟨by simp; exact hS.1, fun q j1 j2 => (oq q (fun z => j2 (z ▸ hA1))).trans (hS.2.1 q j1 j2), fun q hq => by
      rcases List.mem_append.mp hq with h | h
      · exact hS.2.2 q h
      · obtain ⟨z, -, hz⟩ := List.mem_map.mp h
        rw [← hz]
        exact hA1⟩ ((T.setVm vm').setCell a E) (by rw [← hT]; rfl) X'
  exact ⟨t, step t a1, b1⟩
end MAKE
