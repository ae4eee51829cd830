/-! THE REFERENCE: runs, the fewest by trying all sets. -/
def metB (F G : Nat → Int32) (n : Nat) (q : Int32) (S : Nat) : Bool := decide ((runF F G n q S).2.1 = 0)
section RUN2
variable {F G : Nat → Int32} {n : Nat} {q : Int32} {S : Nat} {FIN : Rs} {i : Nat} {p p' wh how : Int32} {a b : Nat → Int32}
theorem bAt_ne {t : Bool} (h : n ≠ i) : bAt G t i p b n = b n := by
  unfold bAt
  by_cases c : t = true ∧ p < G 4
  · rw [if_pos c]
  · rw [if_neg c, pk_un h]
theorem runI.f2 (hr : rn F G n q S (n + 1 - i) i p a b = FIN) (hi : i ≤ n) (h1 : S.testBit i = true) (h2 : p < G 4) : (nI i, (2 : Int32), upd a i p, b) = FIN := by
  rw [rn_s hi, fAt_2 h1 h2, bAt_2 h1 h2] at hr
  exact hr
theorem runI.span (hr : rn F G n q S (n + 1 - i) i p a b = FIN) (hw : wh = -1000001) (h0 : how = 0) (hi : i < n) (hq : S.testBit i = false ∨ ¬ p < G 4) : runI F G n q S FIN (i + 1) (goV F i (afterP G (S.testBit i) p) q) (onF (failF F i (afterP G (S.testBit i) p) q) wh (nI i)) (onF (failF F i (afterP G (S.testBit i) p) q) how (failF F i (afterP G (S.testBit i) p) q)) (upd a i p) (bAt G (S.testBit i) i p b) := by
  have hf : fAt F G n (S.testBit i) i p q = failF F i (afterP G (S.testBit i) p) q := fAt_s hq hi
  by_cases c : failF F i (afterP G (S.testBit i) p) q = 0
  · have h := runI.next (p' := afterP G (S.testBit i) p - lossF F i q) hr hw (Nat.le_of_lt hi) (hf.trans c) (fun _ => rfl)
    rw [hf] at h
    rw [← goV_0 c, ← onF_0 c, ← onF_0 c, h0]
    rw [c] at h
    exact h
  · have h := runI.fail (p' := goV F i (afterP G (S.testBit i) p) q) hr (Nat.le_of_lt hi) (by rw [hf]; exact c)
    rw [hf] at h
    rw [← onF_n c, ← onF_n c]
    exact h
theorem runI.n5 (hr : rn F G n q S (n + 1 - i) i p a b = FIN) (hi : i = n) (hq : S.testBit i = false ∨ ¬ p < G 4) (h5 : afterP G (S.testBit i) p < G 2) : runI F G n q S FIN (i + 1) p' (nI i) 5 (upd a i p) (bAt G (S.testBit i) i p b) := by
  have hf : fAt F G n (S.testBit i) i p q = 5 := fAt_5 hq (by omega) h5
  have h := runI.fail (p' := p') hr (Nat.le_of_eq hi) (by rw [hf]; decide)
  rw [hf] at h
  exact h
theorem runI.n0 (hr : rn F G n q S (n + 1 - i) i p a b = FIN) (hw : wh = -1000001) (h0 : how = 0) (hi : i = n) (hq : S.testBit i = false ∨ ¬ p < G 4) (h5 : ¬ afterP G (S.testBit i) p < G 2) : runI F G n q S FIN (i + 1) p' wh how (upd a i p) (bAt G (S.testBit i) i p b) := by
  have hf : fAt F G n (S.testBit i) i p q = 0 := fAt_0 hq (by omega) h5
  have h := runI.next (p' := p') hr hw (Nat.le_of_eq hi) hf (fun h => absurd h (by omega))
  rw [hf] at h
  rw [h0]
  exact h
theorem aft_f (h : S.testBit i = false) : p = afterP G (S.testBit i) p := by rw [h]; rfl
theorem aft_1 (h : S.testBit i = true) (h2 : p < G 3) : G 3 = afterP G (S.testBit i) p := by rw [h, afterP_t, if_pos h2]
theorem aft_2 (h : S.testBit i = true) (h2 : ¬ p < G 3) : p = afterP G (S.testBit i) p := by rw [h, afterP_t, if_neg h2]
theorem bAt_n (hq : S.testBit n = false ∨ ¬ p < G 4) : afterP G (S.testBit n) p = bAt G (S.testBit n) n p b n := by rw [bAt_p hq, pk_us]
end RUN2
/-- the best set among those below s, as the reference finds it -/
def brF (F G : Nat → Int32) (n : Nat) (q : Int32) : Nat → Int32
  | 0 => -1000001
  | s + 1 => if (brF F G n q s = -1000001 ∨ bcI (nI s) < bcI (brF F G n q s)) ∧ metB F G n q s = true then nI s else brF F G n q s
def fwB (F G : Nat → Int32) (n : Nat) (q : Int32) (s : Nat) : Bool := decide (brF F G n q s = -1000001) || decide (bcI (nI s) < bcI (brF F G n q s))
section BR
variable {F G : Nat → Int32} {n : Nat} {q : Int32} {s : Nat}
theorem brF_ok : ∀ s, brF F G n q s = -1000001 ∨ ∃ p, p < s ∧ brF F G n q s = nI p
  | 0 => Or.inl rfl
  | s + 1 => by
    show (if _ then _ else _) = _ ∨ _
    by_cases c : (brF F G n q s = -1000001 ∨ bcI (nI s) < bcI (brF F G n q s)) ∧ metB F G n q s = true
    · exact Or.inr ⟨s, Nat.lt_succ_self s, if_pos c⟩
    · rcases brF_ok s with h | ⟨p, hp, h⟩
      · left; rw [if_neg c]; exact h
      · right; exact ⟨p, Nat.lt_succ_of_lt hp, (if_neg c).trans h⟩
theorem brF_pump (hs : s ≤ 2048) (h : ¬ brF F G n q s = -1000001) : okPumps (brF F G n q s) := by
  rcases brF_ok (F := F) (G := G) (n := n) (q := q) s with h1 | ⟨p, hp, h1⟩
  · exact absurd h1 h
  · exact ⟨p, by omega, h1⟩
theorem fwB_1 (h : brF F G n q s = -1000001) : fwB F G n q s = true := by unfold fwB; rw [decide_eq_true h]; rfl
theorem fwB_2 (h : bcI (nI s) < bcI (brF F G n q s)) : fwB F G n q s = true := by unfold fwB; rw [decide_eq_true h, Bool.or_true]
theorem fwB_0 (h : ¬ brF F G n q s = -1000001) (h2 : ¬ bcI (nI s) < bcI (brF F G n q s)) : fwB F G n q s = false := by unfold fwB; rw [decide_eq_false h, decide_eq_false h2]; rfl
theorem brF_t (h : fwB F G n q s = true) (h2 : metB F G n q s = true) : nI s = brF F G n q (s + 1) := by
  refine (if_pos ⟨?_, h2⟩).symm
  unfold fwB at h
  simpa using h
theorem brF_f1 (h : fwB F G n q s = false) : brF F G n q s = brF F G n q (s + 1) := by
  refine (if_neg (fun h2 => ?_)).symm
  unfold fwB at h
  simp at h
  exact h2.1.elim h.1 (fun z => absurd z (Int32.not_lt.mpr h.2))
theorem brF_f2 (h : metB F G n q s = false) : brF F G n q s = brF F G n q (s + 1) := (if_neg (fun h2 => by rw [h] at h2; cases h2.2)).symm
end BR
def hasB (F G : Nat → Int32) (n : Nat) (q : Int32) : Bool := !decide (brF F G n q (2 ^ n) = -1000001)
def few2 (F G : Nat → Int32) (n : Nat) (q w : Int32) : Int32 := if brF F G n q (2 ^ n) = -1000001 then -1000001 else if w = 0 then bcI (brF F G n q (2 ^ n)) else brF F G n q (2 ^ n)
theorem hasB_t {F G : Nat → Int32} {n : Nat} {q : Int32} (h : ¬ brF F G n q (2 ^ n) = -1000001) : hasB F G n q = true := by unfold hasB; rw [decide_eq_false h]; rfl
theorem hasB_f {F G : Nat → Int32} {n : Nat} {q : Int32} (h : brF F G n q (2 ^ n) = -1000001) : hasB F G n q = false := by unfold hasB; rw [decide_eq_true h]; rfl
theorem hasB_n {F G : Nat → Int32} {n : Nat} {q : Int32} (h : hasB F G n q = true) : ¬ brF F G n q (2 ^ n) = -1000001 := fun h2 => by rw [hasB_f h2] at h; cases h
theorem hasB_e {F G : Nat → Int32} {n : Nat} {q : Int32} (h : hasB F G n q = false) : brF F G n q (2 ^ n) = -1000001 := by
  by_cases c : brF F G n q (2 ^ n) = -1000001
  · exact c
  · rw [hasB_t c] at h; cases h
theorem pow10 {n : Nat} (h : n ≤ 10) : 2 ^ n ≤ 1024 := Nat.pow_le_pow_right (by decide) h
theorem metB_most {F G : Nat → Int32} {n S k : Nat} (h : metB F G n (nI (k + 1)) S = true) : nI (k + 1) = mostI F G n S (k + 1) := (if_pos (of_decide_eq_true h)).symm
theorem metB_not {F G : Nat → Int32} {n S k : Nat} (h : metB F G n (nI (k + 1)) S = false) : mostI F G n S k = mostI F G n S (k + 1) := (if_neg (of_decide_eq_false h)).symm
