/-! WHAT IS ASKED: the answers as functions. -/
def fewF (F G : Nat → Int32) (n : Nat) (q w : Int32) : Int32 := if bestF F G n q = 1073741824 then -1000001 else if w = 0 then szI (bestF F G n q) else btI (bestF F G n q)
def nodeF (F G : Nat → Int32) (n S : Nat) (i w : Int32) : Int32 := if w = 0 then (runF F G n (G 0) S).2.2.1 (pl i) else (runF F G n (G 0) S).2.2.2 (pl i)
def runA (F G : Nat → Int32) (n S : Nat) (w : Int32) : Int32 := if w = 0 then (runF F G n (G 0) S).1 else if w = 1 then (runF F G n (G 0) S).2.1 else (runF F G n (G 0) S).2.2.2 n
/-- the greatest flow, from k down -/
def mostI (F G : Nat → Int32) (n S : Nat) : Nat → Int32
  | 0 => -1000001
  | k + 1 => if (runF F G n (nI (k + 1)) S).2.1 = 0 then nI (k + 1) else mostI F G n S k
def mostF (F G : Nat → Int32) (n S : Nat) : Int32 := mostI F G n S 30
def cntF (L : Ln) (w : Int32) : Int32 := if w = 0 then bcI L.2.1 else if w = 1 then L.2.1 else if w = 2 then nI L.1 else if w = 3 then sumB L.2.2.1 L.1 else if w = 10 then sumH L.2.2.1 L.1 else L.2.2.2 (pl (w - 4))
/-- the fewest tanks, from k on, f of them looked at -/
def tkI (w v a d e : Int32) : Nat → Nat → Int32
  | 0, _ => -1000001
  | f + 1, k => if brings (nI k) v a d e < w then tkI w v a d e f (k + 1) else nI k
def okTank (w v a d e : Int32) : Bool := inR w 1 9999 && tripB v a d e
def okShut (k v a d e : Int32) : Bool := inR k 1 20 && tripB v a d e
theorem rB_t2 {ok : Bool} {x v : Int32} (h : ok = true) (hx : x = v) : x = rB ok v := by rw [hx]; exact rB_t h
theorem mostI_s {F G : Nat → Int32} {n S k : Nat} (hk : 0 < k) : mostI F G n S k = if (runF F G n (nI k) S).2.1 = 0 then nI k else mostI F G n S (k - 1) := by
  cases k with
  | zero => exact absurd hk (Nat.lt_irrefl 0)
  | succ k => rfl
theorem tkI_s {w v a d e : Int32} {k : Nat} (hk : k ≤ 20) : tkI w v a d e (21 - k) k = if brings (nI k) v a d e < w then tkI w v a d e (21 - (k + 1)) (k + 1) else nI k := by
  rw [show 21 - k = (21 - (k + 1)) + 1 by omega]
  rfl
def tyV (c : Int32) (N : Nat) : Int32 := if inR c 0 127 = true then (if N < 120 then nI (N + 1) else -1000004) else -1000002
def tyN (c : Int32) (N : Nat) : Nat := if inR c 0 127 = true ∧ N < 120 then N + 1 else N
def tyT (c : Int32) (N : Nat) (T : Nat → Int32) : Nat → Int32 := if inR c 0 127 = true ∧ N < 120 then upd T N c else T
def tyF (c : Int32) (N : Nat) (x : Int32) : Int32 := if inR c 0 127 = true ∧ ¬ N < 120 then x + 1 else x
section TY
variable {c : Int32} {N : Nat} {T : Nat → Int32} {x : Int32}
theorem no_f {p q : Prop} {b : Bool} (h : b = false) : ¬ (b = true ∧ q) := fun h2 => by rw [h] at h2; exact absurd h2.1 (by decide)
theorem tyV_b (h : inR c 0 127 = false) : -1000002 = tyV c N := (if_neg (by rw [h]; decide)).symm
theorem tyV_f (h : inR c 0 127 = true) (h2 : ¬ N < 120) : -1000004 = tyV c N := by unfold tyV; rw [if_pos h, if_neg h2]
theorem tyV_t (h : inR c 0 127 = true) (h2 : N < 120) : nI (N + 1) = tyV c N := by unfold tyV; rw [if_pos h, if_pos h2]
theorem tyN_b (h : inR c 0 127 = false) : N = tyN c N := (if_neg (no_f (p := True) h)).symm
theorem tyN_f (h2 : ¬ N < 120) : N = tyN c N := (if_neg (fun h => h2 h.2)).symm
theorem tyN_t (h : inR c 0 127 = true) (h2 : N < 120) : N + 1 = tyN c N := (if_pos ⟨h, h2⟩).symm
theorem tyT_b (h : inR c 0 127 = false) : T = tyT c N T := (if_neg (no_f (p := True) h)).symm
theorem tyT_f (h2 : ¬ N < 120) : T = tyT c N T := (if_neg (fun h => h2 h.2)).symm
theorem tyT_t (h : inR c 0 127 = true) (h2 : N < 120) : upd T N c = tyT c N T := (if_pos ⟨h, h2⟩).symm
theorem tyF_b (h : inR c 0 127 = false) : x = tyF c N x := (if_neg (no_f (p := True) h)).symm
theorem tyF_f (h : inR c 0 127 = true) (h2 : ¬ N < 120) : x + 1 = tyF c N x := (if_pos ⟨h, h2⟩).symm
theorem tyF_t (h2 : N < 120) : x = tyF c N x := (if_neg (fun h => h.2 h2)).symm
end TY
/-- a STATE back -/
def bkV (sl : Nat) : Int32 := if sl = 0 then -1000003 else nI (sl - 1)
def bkL (sl : Nat) (L : Ln) (R : Nat → Ln) (nx : Nat) : Ln := if sl = 0 then L else R ((nx + 4) % 5)
def bkX (sl nx : Nat) : Nat := if sl = 0 then nx else (nx + 4) % 5
def bkN (sl : Nat) (x : Int32) : Int32 := if sl = 0 then x + 1 else x
def toldF (rb rn rf : Int32) (N sl : Nat) (w : Int32) : Int32 := if w = 0 then rb else if w = 1 then rn else if w = 2 then rf else if w = 3 then nI N else nI sl
theorem told_no {w : Int32} (h0 : ¬ w = 0) (h1 : ¬ w = 1) (h2 : ¬ w = 2) (h3 : ¬ w = 3) (h4 : ¬ w = 4) : inR w 0 4 = false := by
  rw [inR_f]
  rintro ⟨g1, g2⟩
  obtain ⟨j, hj, rfl⟩ := nI_of2 (M := 4) (n := 4) (by decide) (Int32.not_lt.mpr g1) g2
  have : j = 0 ∨ j = 1 ∨ j = 2 ∨ j = 3 ∨ j = 4 := by omega
  rcases this with rfl | rfl | rfl | rfl | rfl
  · exact h0 rfl
  · exact h1 rfl
  · exact h2 rfl
  · exact h3 rfl
  · exact h4 rfl
