/-! THE TEXT: its bytes T, N of them; what stands at a place, numbers, orders; functions. -/
def bh (T : Nat → Int32) (N a : Nat) : Int32 := if a < N then T a else -1
def fig (T : Nat → Int32) (N a : Nat) : Bool := inR (bh T N a) 48 57
def sk (T : Nat → Int32) (N : Nat) : Nat → Nat → Nat
  | 0, a => a
  | k + 1, a => if a < N ∧ T a = 32 then sk T N k (a + 1) else a
/-- behind the blanks -/
def skB (T : Nat → Int32) (N a : Nat) : Nat := sk T N (N - a) a
/-- figures, at most k of them: where they end, the number -/
def dg (T : Nat → Int32) (N : Nat) : Nat → Nat → Int32 → Nat × Int32
  | 0, a, v => (a, v)
  | k + 1, a, v => if fig T N a = true then dg T N k (a + 1) (10 * v + bh T N a - 48) else (a, v)
def neg (T : Nat → Int32) (N : Nat) (may : Bool) (a : Nat) : Bool := may && decide (bh T N a = 45)
def nSt (T : Nat → Int32) (N : Nat) (may : Bool) (a : Nat) : Nat := if neg T N may a = true then a + 1 else a
def nEnd (T : Nat → Int32) (N : Nat) (may : Bool) (a : Nat) : Nat := (dg T N 3 (nSt T N may a) 0).1
def nVal (T : Nat → Int32) (N : Nat) (may : Bool) (a : Nat) : Int32 := if neg T N may a = true then -(dg T N 3 (nSt T N may a) 0).2 else (dg T N 3 (nSt T N may a) 0).2
def nOk (T : Nat → Int32) (N : Nat) (may : Bool) (a : Nat) : Bool := fig T N (nSt T N may a) && !fig T N (nEnd T N may a)
/-- how many numbers an order's letter wants; 5: it is no letter of an order -/
def nW (c : Int32) : Nat := if c = 104 then 4 else if c = 107 then 2 else if c = 112 ∨ c = 120 ∨ c = 109 then 1 else if c = 99 then 0 else 5
def mayB (c : Int32) (w : Nat) : Bool := decide (c = 104) && decide (w = 2)
/-- the numbers w on, k of them, and the end of an order -/
def oGo (T : Nat → Int32) (N : Nat) (c : Int32) : Nat → Nat → Nat → Bool × Nat
  | 0, _, a => if bh T N (skB T N a) = 59 then (true, skB T N a + 1) else (false, skB T N a)
  | k + 1, w, a => if nOk T N (mayB c w) (skB T N a) = true then oGo T N c k (w + 1) (nEnd T N (mayB c w) (skB T N a)) else (false, nEnd T N (mayB c w) (skB T N a))
def ordR (T : Nat → Int32) (N a : Nat) : Bool × Nat := if nW (bh T N a) = 5 then (false, a) else oGo T N (bh T N a) (nW (bh T N a)) 0 (a + 1)
/-- where the number w of the order at a is looked for, what it is -/
def nPos (T : Nat → Int32) (N a : Nat) : Nat → Nat
  | 0 => a + 1
  | w + 1 => nEnd T N (mayB (bh T N a) w) (skB T N (nPos T N a w))
def oV (T : Nat → Int32) (N a w : Nat) : Int32 := nVal T N (mayB (bh T N a) w) (skB T N (nPos T N a w))
/-- the place of the order o -/
def oP (T : Nat → Int32) (N : Nat) : Nat → Nat
  | 0 => skB T N 0
  | o + 1 => skB T N (ordR T N (oP T N o)).2
/-- all of it: whether it can stand, the place of the fault, how many orders -/
def tx (T : Nat → Int32) (N : Nat) : Nat → Nat → Nat → Bool × Nat × Nat
  | 0, o, a => (decide (0 < o), a, o)
  | k + 1, o, a => if a < N then (if (ordR T N a).1 = true then tx T N k (o + 1) (skB T N (ordR T N a).2) else (false, (ordR T N a).2, o)) else (decide (0 < o), a, o)
def txt (T : Nat → Int32) (N : Nat) : Bool × Nat × Nat := tx T N (N + 1) 0 (skB T N 0)
section TEXT
variable {T : Nat → Int32} {N a : Nat} {may : Bool} {c v : Int32}
theorem bh_t (h : a < N) : bh T N a = T a := if_pos h
theorem bh_f (h : ¬ a < N) : bh T N a = -1 := if_neg h
theorem sk_le : ∀ (k a : Nat), a ≤ sk T N k a
  | 0, a => Nat.le_refl a
  | k + 1, a => by
    unfold sk
    by_cases h : a < N ∧ T a = 32
    · rw [if_pos h]; exact Nat.le_trans (Nat.le_succ a) (sk_le k (a + 1))
    · rw [if_neg h]; exact Nat.le_refl a
theorem sk_N : ∀ (k a : Nat), a ≤ N → sk T N k a ≤ N
  | 0, a, h => h
  | k + 1, a, h => by
    unfold sk
    by_cases h2 : a < N ∧ T a = 32
    · rw [if_pos h2]; exact sk_N k (a + 1) h2.1
    · rw [if_neg h2]; exact h
theorem skB_le : a ≤ skB T N a := sk_le _ a
theorem skB_N (h : a ≤ N) : skB T N a ≤ N := sk_N _ a h
theorem skB_s (h1 : a < N) (h2 : T a = 32) : skB T N (a + 1) = skB T N a := by
  unfold skB
  rw [show N - a = (N - (a + 1)) + 1 by omega]
  exact (if_pos ⟨h1, h2⟩).symm
theorem skB_e (h : ¬ (a < N ∧ T a = 32)) : skB T N a = a := by
  unfold skB
  cases hk : N - a with
  | zero => rfl
  | succ k => exact if_neg h
theorem fig_N (h : fig T N a = true) : a < N := by
  rcases Nat.lt_or_ge a N with h1 | h1
  · exact h1
  · unfold fig at h
    rw [bh_f (by omega)] at h
    exact absurd h (by decide)
theorem dg_N : ∀ (k a : Nat) (v : Int32), a ≤ N → a ≤ (dg T N k a v).1 ∧ (dg T N k a v).1 ≤ N
  | 0, a, v, h => ⟨Nat.le_refl a, h⟩
  | k + 1, a, v, h => by
    unfold dg
    by_cases h2 : fig T N a = true
    · rw [if_pos h2]
      have := dg_N k (a + 1) (10 * v + bh T N a - 48) (fig_N h2)
      omega
    · rw [if_neg h2]; exact ⟨Nat.le_refl a, h⟩
theorem neg_N (h : neg T N may a = true) : a < N := by
  rcases Nat.lt_or_ge a N with h1 | h1
  · exact h1
  · unfold neg at h
    rw [bh_f (by omega)] at h
    simp at h
theorem nSt_N (h : a ≤ N) : a ≤ nSt T N may a ∧ nSt T N may a ≤ N := by
  unfold nSt
  by_cases h2 : neg T N may a = true
  · rw [if_pos h2]; exact ⟨Nat.le_succ a, neg_N h2⟩
  · rw [if_neg h2]; exact ⟨Nat.le_refl a, h⟩
theorem nEnd_N (h : a ≤ N) : a ≤ nEnd T N may a ∧ nEnd T N may a ≤ N := by
  have h1 := nSt_N (T := T) (may := may) h
  have h2 := dg_N (T := T) 3 (nSt T N may a) 0 h1.2
  unfold nEnd
  omega
theorem oGo_N : ∀ (k w a : Nat), a ≤ N → a ≤ (oGo T N c k w a).2 ∧ (oGo T N c k w a).2 ≤ N ∧ ((oGo T N c k w a).1 = true → a + 1 ≤ (oGo T N c k w a).2)
  | 0, w, a, h => by
    unfold oGo
    have h1 := skB_le (T := T) (N := N) (a := a)
    have h2 := skB_N (T := T) h
    by_cases h3 : bh T N (skB T N a) = 59
    · rw [if_pos h3]
      have h4 : skB T N a < N := by
        rcases Nat.lt_or_ge (skB T N a) N with q | q
        · exact q
        · rw [bh_f (by omega)] at h3; exact absurd h3 (by decide)
      exact ⟨by show a ≤ skB T N a + 1; omega, h4, fun _ => by show a + 1 ≤ skB T N a + 1; omega⟩
    · rw [if_neg h3]; exact ⟨h1, h2, fun h => by cases h⟩
  | k + 1, w, a, h => by
    unfold oGo
    have h1 := skB_le (T := T) (N := N) (a := a)
    have h2 := skB_N (T := T) h
    have h3 := nEnd_N (T := T) (may := mayB c w) h2
    by_cases h4 : nOk T N (mayB c w) (skB T N a) = true
    · rw [if_pos h4]
      have h5 := oGo_N k (w + 1) _ h3.2
      exact ⟨by omega, h5.2.1, fun q => by have := h5.2.2 q; omega⟩
    · rw [if_neg h4]; exact ⟨by show a ≤ nEnd T N _ _; omega, h3.2, fun h => by cases h⟩
theorem ordR_N (h : a ≤ N) : a ≤ (ordR T N a).2 ∧ (ordR T N a).2 ≤ N ∧ ((ordR T N a).1 = true → a + 2 ≤ (ordR T N a).2 ∧ a < N) := by
  unfold ordR
  by_cases h1 : nW (bh T N a) = 5
  · rw [if_pos h1]; exact ⟨Nat.le_refl a, h, fun h => by cases h⟩
  · rw [if_neg h1]
    have h2 : a < N := by
      rcases Nat.lt_or_ge a N with q | q
      · exact q
      · rw [bh_f (by omega)] at h1; exact absurd (show nW (-1) = 5 by decide) h1
    have h3 := oGo_N (T := T) (c := bh T N a) (nW (bh T N a)) 0 (a + 1) h2
    exact ⟨by omega, h3.2.1, fun q => ⟨by have := h3.2.2 q; omega, h2⟩⟩
end TEXT
section TEXT2
variable {T : Nat → Int32} {N a y w : Nat} {may : Bool} {c v : Int32}
theorem byte_all : ∀ j, j < 128 → vp_nar .byte ((Int32.toInt8 (nI j)).toInt32) = nI j := by decide +kernel
theorem byte_c {c : Int32} (h : inR c 0 127 = true) : vp_nar .byte ((Int32.toInt8 c).toInt32) = c := by
  obtain ⟨j, hj, rfl⟩ := inR_nI (n := 127) (by decide) h
  exact byte_all j (by omega)
theorem nW_c {c : Int32} (h : ¬ nW c = 5) : c = 104 ∨ c = 107 ∨ c = 112 ∨ c = 120 ∨ c = 109 ∨ c = 99 := by
  unfold nW at h
  by_cases h1 : c = 104
  · exact Or.inl h1
  · by_cases h2 : c = 107
    · exact Or.inr (Or.inl h2)
    · by_cases h3 : c = 112 ∨ c = 120 ∨ c = 109
      · rcases h3 with h3 | h3 | h3
        · exact Or.inr (Or.inr (Or.inl h3))
        · exact Or.inr (Or.inr (Or.inr (Or.inl h3)))
        · exact Or.inr (Or.inr (Or.inr (Or.inr (Or.inl h3))))
      · by_cases h4 : c = 99
        · exact Or.inr (Or.inr (Or.inr (Or.inr (Or.inr h4))))
        · rw [if_neg h1, if_neg h2, if_neg h3, if_neg h4] at h
          exact absurd rfl h
theorem byte_W {c : Int32} (h : ¬ nW c = 5) : vp_nar .byte ((Int32.toInt8 c).toInt32) = c := by
  rcases nW_c h with h | h | h | h | h | h <;> rw [h] <;> decide
theorem nW_4 {c : Int32} (h : ¬ nW c = 5) : nW c ≤ 4 := by
  rcases nW_c h with h | h | h | h | h | h <;> rw [h] <;> decide
def nWi (c : Int32) : Int32 := if nW c = 5 then -1 else nI (nW c)
theorem nWi_5 {c : Int32} (h : nW c = 5) : nWi c = -1 := if_pos h
theorem nWi_n {c : Int32} (h : ¬ nW c = 5) : nWi c = nI (nW c) := if_neg h
theorem nWi_d {c : Int32} (h1 : ¬ c = 99) (h2 : ¬ c = 104) (h3 : ¬ c = 107) (h4 : ¬ c = 109) (h5 : ¬ c = 112) (h6 : ¬ c = 120) : -1 = nWi c := by
  have h : nW c = 5 := by
    unfold nW
    rw [if_neg h2, if_neg h3, if_neg (show ¬ (c = 112 ∨ c = 120 ∨ c = 109) from fun h => h.elim h5 (fun h => h.elim h6 h4)), if_neg h1]
  exact (nWi_5 h).symm
theorem neg_1 (h : may = false) : neg T N may a = false := by unfold neg; rw [h]; rfl
theorem neg_2 (h : ¬ bh T N a = 45) : neg T N may a = false := by unfold neg; rw [decide_eq_false h, Bool.and_false]
theorem neg_3 (h1 : may = true) (h : bh T N a = 45) : neg T N may a = true := by unfold neg; rw [decide_eq_true h, h1]; rfl
theorem nSt_f (h : neg T N may a = false) : nSt T N may a = a := by unfold nSt; rw [h]; rfl
theorem nSt_t (h : neg T N may a = true) : nSt T N may a = a + 1 := by unfold nSt; rw [h]; rfl
theorem dg_s {k : Nat} (h : fig T N a = true) : dg T N (k + 1) a v = dg T N k (a + 1) (10 * v + bh T N a - 48) := if_pos h
theorem dg_e {k : Nat} (h : fig T N a = false) : dg T N k a v = (a, v) := by
  cases k with
  | zero => rfl
  | succ k => exact if_neg (by rw [h]; decide)
theorem nEnd_f (h : fig T N (nSt T N may a) = false) : nEnd T N may a = nSt T N may a := by unfold nEnd; rw [dg_e h]
theorem nOk_f1 (h : fig T N (nSt T N may a) = false) : nOk T N may a = false := by unfold nOk; rw [h]; rfl
theorem nEnd_of (he : dg T N 3 (nSt T N may a) 0 = (y, v)) : nEnd T N may a = y := by unfold nEnd; rw [he]
theorem nVal_t (he : dg T N 3 (nSt T N may a) 0 = (y, v)) (h : neg T N may a = true) : -v = nVal T N may a := by unfold nVal; rw [h, he]; rfl
theorem nVal_f (he : dg T N 3 (nSt T N may a) 0 = (y, v)) (h : neg T N may a = false) : v = nVal T N may a := by unfold nVal; rw [h, he]; rfl
theorem nOk_f2 (h : fig T N (nEnd T N may a) = true) : nOk T N may a = false := by unfold nOk; rw [h, Bool.not_true, Bool.and_false]
theorem nOk_t (h1 : fig T N (nSt T N may a) = true) (h : fig T N (nEnd T N may a) = false) : nOk T N may a = true := by unfold nOk; rw [h, h1]; rfl
theorem nOk_s (h : nOk T N may a = true) : fig T N (nSt T N may a) = true := by
  unfold nOk at h
  exact (Bool.and_eq_true_iff.mp h).1
theorem mayB_1 (h : ¬ c = 104) : mayB c w = false := by unfold mayB; rw [decide_eq_false h]; rfl
theorem mayB_2 (h : ¬ w = 2) : mayB c w = false := by unfold mayB; rw [decide_eq_false h, Bool.and_false]
theorem mayB_3 (h : c = 104) (h2 : w = 2) : mayB c w = true := by unfold mayB; rw [decide_eq_true h, decide_eq_true h2]; rfl
theorem oGo_s {k W : Nat} (hw : w < W) : oGo T N c (W - w) w a = if nOk T N (mayB c w) (skB T N a) = true then oGo T N c (W - (w + 1)) (w + 1) (nEnd T N (mayB c w) (skB T N a)) else (false, nEnd T N (mayB c w) (skB T N a)) := by
  rw [show W - w = (W - (w + 1)) + 1 by omega]
  rfl
theorem oGo_e {W : Nat} (hw : w = W) : oGo T N c (W - w) w a = if bh T N (skB T N a) = 59 then (true, skB T N a + 1) else (false, skB T N a) := by
  rw [hw, Nat.sub_self]
  rfl
theorem ordR_b (h : nW (bh T N a) = 5) : ordR T N a = (false, a) := if_pos h
theorem ordR_g (h : ¬ nW (bh T N a) = 5) : ordR T N a = oGo T N (bh T N a) (nW (bh T N a)) 0 (a + 1) := if_neg h
end TEXT2
section TEXT3
variable {T : Nat → Int32} {N k x y : Nat}
theorem tx_s (hk : 0 < k) (h : y < N) : tx T N k x y = if (ordR T N y).1 = true then tx T N (k - 1) (x + 1) (skB T N (ordR T N y).2) else (false, (ordR T N y).2, x) := by
  cases k with
  | zero => exact absurd hk (Nat.lt_irrefl 0)
  | succ k => exact if_pos h
theorem tx_e (h : ¬ y < N) : tx T N k x y = (decide (0 < x), y, x) := by
  cases k with
  | zero => rfl
  | succ k => exact if_neg h
/-- what the class keeps of the orders read: their letters, their numbers -/
def keptO (T : Nat → Int32) (N x : Nat) (Lx Nx : Nat → Int32) : Prop := ∀ j, j < x → Lx j = bh T N (oP T N j) ∧ (∀ k, k < nW (bh T N (oP T N j)) → Nx (j * 4 + k) = oV T N (oP T N j) k) ∧ (ordR T N (oP T N j)).1 = true ∧ oP T N j < N
theorem keptO_0 {Lx Nx : Nat → Int32} : keptO T N 0 Lx Nx := fun _ h => absurd h (Nat.not_lt_zero _)
theorem keptO_s {Lx Nx Ly Ny : Nat → Int32} (h : keptO T N x Lx Nx) (hy : y = oP T N x) (hr : (ordR T N y).1 = true) (hl : y < N) (h1 : Ly = upd Lx x (bh T N y)) (h2 : ∀ j, j < x * 4 → Ny j = Nx j) (h3 : ∀ k, k < nW (bh T N y) → Ny (x * 4 + k) = oV T N y k) (h4 : ∀ j, nW (bh T N (oP T N j)) ≤ 4 ∨ ¬ (ordR T N (oP T N j)).1 = true) : keptO T N (x + 1) Ly Ny := by
  subst h1
  intro j hj
  by_cases hjx : j = x
  · subst hjx
    rw [← hy, pk_us]
    exact ⟨rfl, h3, hr, hl⟩
  · obtain ⟨g1, g2, g3, g4⟩ := h j (by omega)
    rw [pk_un hjx]
    refine ⟨g1, fun k hk => ?_, g3, g4⟩
    rcases h4 j with q | q
    · rw [h2 _ (by omega)]; exact g2 k hk
    · exact absurd g3 q
theorem nW_le5 (c : Int32) : nW c ≤ 5 := by
  by_cases h : nW c = 5
  · omega
  · have := nW_4 h; omega
theorem ordR_W {a : Nat} : nW (bh T N a) ≤ 4 ∨ ¬ (ordR T N a).1 = true := by
  by_cases h : nW (bh T N a) = 5
  · right; rw [ordR_b h]; exact Bool.false_ne_true
  · left; exact nW_4 h
end TEXT3
theorem W_lt {T : Nat → Int32} {N a : Nat} (h : ¬ nW (bh T N a) = 5) : a < N := by
  rcases Nat.lt_or_ge a N with q | q
  · exact q
  · rw [bh_f (by omega)] at h; exact absurd (show nW (-1) = 5 by decide) h
