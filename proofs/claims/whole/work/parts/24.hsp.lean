/-! THE OBJECT: refusals, the ring of STATES, and what each call answers; functions. -/
def isRef (v : Int32) : Bool := decide (v = -1000002) || (decide (v = -1000003) || decide (v = -1000004))
theorem isRef_1 {v : Int32} (h : v = -1000002) : isRef v = true := by unfold isRef; rw [decide_eq_true h]; rfl
theorem isRef_2 {v : Int32} (h : v = -1000003) : isRef v = true := by unfold isRef; rw [decide_eq_true h, Bool.true_or, Bool.or_true]
theorem isRef_3 {v : Int32} (h : v = -1000004) : isRef v = true := by unfold isRef; rw [decide_eq_true h, Bool.or_true, Bool.or_true]
theorem isRef_0 {v : Int32} (h1 : ¬ v = -1000002) (h2 : ¬ v = -1000003) (h3 : ¬ v = -1000004) : isRef v = false := by unfold isRef; rw [decide_eq_false h1, decide_eq_false h2, decide_eq_false h3]; rfl
def uB (v x : Int32) : Int32 := if v = -1000002 then x + 1 else x
def uN (v x : Int32) : Int32 := if v = -1000003 then x + 1 else x
def uF (v x : Int32) : Int32 := if v = -1000002 ∨ v = -1000003 then x else x + 1
theorem uB_1 {v x : Int32} (h : v = -1000002) : x + 1 = uB v x := (if_pos h).symm
theorem uB_0 {v x : Int32} (h : ¬ v = -1000002) : x = uB v x := (if_neg h).symm
theorem uN_1 {v x : Int32} (h : v = -1000003) : x + 1 = uN v x := (if_pos h).symm
theorem uN_0 {v x : Int32} (h : ¬ v = -1000003) : x = uN v x := (if_neg h).symm
theorem uF_1 {v x : Int32} (h1 : ¬ v = -1000002) (h2 : ¬ v = -1000003) : x + 1 = uF v x := (if_neg (fun h => h.elim h1 h2)).symm
theorem uF_b {v x : Int32} (h : v = -1000002) : x = uF v x := (if_pos (Or.inl h)).symm
theorem uF_n {v x : Int32} (h : v = -1000003) : x = uF v x := (if_pos (Or.inr h)).symm
theorem ne_nb {v : Int32} (h : v = -1000003) : ¬ v = -1000002 := by rw [h]; decide
theorem ne_bn {v : Int32} (h : v = -1000002) : ¬ v = -1000003 := by rw [h]; decide
def updR (R : Nat → Ln) (k : Nat) (B : Ln) : Nat → Ln := fun j => if j = k then B else R j
def fR (v : Int32) (R : Nat → Ln) (nx : Nat) (B : Ln) : Nat → Ln := if isRef v = true then R else updR R nx B
def fnx (v : Int32) (nx : Nat) : Nat := if isRef v = true then nx else (nx + 1) % 5
def fsl (v : Int32) (sl : Nat) : Nat := if isRef v = true then sl else min (sl + 1) 5
def gB (v x : Int32) : Int32 := if isRef v = true then uB v x else x
def gN (v x : Int32) : Int32 := if isRef v = true then uN v x else x
def gF (v x : Int32) : Int32 := if isRef v = true then uF v x else x
theorem min5 {sl : Nat} (h : sl ≤ 5) : (if 5 < nI (sl + 1) then 5 else nI (sl + 1)) = nI (min (sl + 1) 5) := by
  by_cases c : (5 : Int32) < nI (sl + 1)
  · have c2 : 5 < sl + 1 := (nI_ltI (a := 5) (b := sl + 1) (by decide) (by omega)).mp c
    rw [if_pos c, Nat.min_eq_right (by omega)]; rfl
  · have c2 : ¬ 5 < sl + 1 := fun q => c ((nI_ltI (a := 5) (b := sl + 1) (by decide) (by omega)).mpr q)
    rw [if_neg c, Nat.min_eq_left (by omega)]
def adr (a0 a1 a2 a3 a4 : Nat) : Nat → Option Nat := fun j => match j with
  | 0 => some a0
  | 1 => some a1
  | 2 => some a2
  | 3 => some a3
  | _ => some a4
section REFS
variable {p : Program} {l : Launch} {e : Env} {R : Room} {s : State} {m : MethodId} {args : Array Value} {below : List Frame} {meth : Method} {c : Code} {H : Heap} {locs : List Loc} {cells slots : Nat} {Q : State → Prop} {pc : Nat} {ls : Array Slot} {rest : List Value}
theorem e_r {x y : Value} (h : x = y) (k : W p l e R s m args below meth c H locs cells slots Q (F0 m pc ls (y :: rest))) : W p l e R s m args below meth c H locs cells slots Q (F0 m pc ls (x :: rest)) := h ▸ k
end REFS
def szI (x : Int32) : Int32 := x / 2048
def btI (x : Int32) : Int32 := x - x / 2048 * 2048
def tripB (v a d e : Int32) : Bool := inR v 1 99 && (inR a 1 99 && (inR d 1 99 && inR e 1 99))
def brings (k v a d e : Int32) : Int32 := mn (60 * k * v / (a + 2 * d + e)) (60 * v / a)
theorem pos_in {x : Int32} (h : inR x 1 99 = true) : ∃ j, 1 ≤ j ∧ j ≤ 99 ∧ x = nI j := by
  obtain ⟨h1, h2⟩ := inR_t.mp h
  obtain ⟨j, hj, rfl⟩ := nI_of2 (M := 99) (n := 99) (by decide) (Int32.not_lt.mpr (Int32.le_trans (by decide) h1)) h2
  refine ⟨j, ?_, hj, rfl⟩
  rcases Nat.eq_zero_or_pos j with q | q
  · subst q; exact absurd h1 (by decide)
  · exact q
theorem trip_a {a : Int32} (h : inR a 1 99 = true) : ¬ a = 0 := by
  obtain ⟨j, h1, h2, rfl⟩ := pos_in h
  exact nI_ne0 (by omega) (by omega)
theorem trip_n {a d e : Int32} (ha : inR a 1 99 = true) (hd : inR d 1 99 = true) (he : inR e 1 99 = true) : ¬ a + 2 * d + e = 0 := by
  obtain ⟨j, h1, h2, rfl⟩ := pos_in ha
  obtain ⟨k, h3, h4, rfl⟩ := pos_in hd
  obtain ⟨i, h5, h6, rfl⟩ := pos_in he
  rw [show (2 : Int32) * nI k = nI (2 * k) from pk_mul 2 k, nI_add, nI_add]
  exact nI_ne0 (by omega) (by omega)
theorem tripB_t {v a d e : Int32} (h : tripB v a d e = true) : inR v 1 99 = true ∧ inR a 1 99 = true ∧ inR d 1 99 = true ∧ inR e 1 99 = true := by
  unfold tripB at h
  simp only [Bool.and_eq_true] at h
  exact h
theorem tripB_ok {v a d e : Int32} (h1 : inR v 1 99 = true) (h2 : inR a 1 99 = true) (h3 : inR d 1 99 = true) (h4 : inR e 1 99 = true) : tripB v a d e = true := by unfold tripB; rw [h1, h2, h3, h4]; rfl
theorem tripB_f1 {v a d e : Int32} (h : inR v 1 99 = false) : tripB v a d e = false := by unfold tripB; rw [h]; rfl
theorem tripB_f2 {v a d e : Int32} (h : inR a 1 99 = false) : tripB v a d e = false := by unfold tripB; rw [h, Bool.false_and, Bool.and_false]
theorem tripB_f3 {v a d e : Int32} (h : inR d 1 99 = false) : tripB v a d e = false := by unfold tripB; rw [h, Bool.false_and, Bool.and_false, Bool.and_false]
theorem tripB_f4 {v a d e : Int32} (h : inR e 1 99 = false) : tripB v a d e = false := by unfold tripB; rw [h, Bool.and_false, Bool.and_false, Bool.and_false]
/-- an answer that may be refused as BAD -/
def rB (ok : Bool) (v : Int32) : Int32 := if ok = true then v else -1000002
def bR (ok : Bool) (x : Int32) : Int32 := if ok = true then x else x + 1
theorem rB_t {ok : Bool} {v : Int32} (h : ok = true) : v = rB ok v := (if_pos h).symm
theorem rB_f {ok : Bool} {v : Int32} (h : ok = false) : -1000002 = rB ok v := (if_neg (by rw [h]; decide)).symm
theorem bR_t {ok : Bool} {x : Int32} (h : ok = true) : x = bR ok x := (if_pos h).symm
theorem bR_f {ok : Bool} {x : Int32} (h : ok = false) : x + 1 = bR ok x := (if_neg (by rw [h]; decide)).symm
theorem uB_B (x : Int32) : uB (-1000002) x = x + 1 := if_pos rfl
theorem uN_B (x : Int32) : uN (-1000002) x = x := if_neg (by decide)
theorem uF_B (x : Int32) : uF (-1000002) x = x := if_pos (Or.inl rfl)
theorem uB_N (x : Int32) : uB (-1000003) x = x := if_neg (by decide)
theorem uN_N (x : Int32) : uN (-1000003) x = x + 1 := if_pos rfl
theorem uF_N (x : Int32) : uF (-1000003) x = x := if_pos (Or.inr rfl)
theorem uB_F (x : Int32) : uB (-1000004) x = x := if_neg (by decide)
theorem uN_F (x : Int32) : uN (-1000004) x = x := if_neg (by decide)
theorem uF_F (x : Int32) : uF (-1000004) x = x + 1 := if_neg (by decide)
def okOf (n : Nat) (i w : Int32) : Bool := inR i 0 (nI n - 1) && inR w 0 4
def okLoss (n : Nat) (i q : Int32) : Bool := inR i 0 (nI n - 1) && inR q 1 30
def okNode (n : Nat) (i w : Int32) : Bool := inR i 0 (nI n) && inR w 0 1
def okFew (q w : Int32) : Bool := inR q 1 30 && inR w 0 1
theorem and_f1 {a b : Bool} (h : a = false) : (a && b) = false := by rw [h]; rfl
theorem and_f2 {a b : Bool} (h : b = false) : (a && b) = false := by rw [h, Bool.and_false]
theorem and_t2 {a b : Bool} (h : a = true) (h2 : b = true) : (a && b) = true := by rw [h, h2]; rfl
