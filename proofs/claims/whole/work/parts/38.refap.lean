/-! THE REFERENCE: what is asked. -/
theorem rn_none {F G : Nat → Int32} {n : Nat} {q : Int32} {S : Nat} : ∀ (k i : Nat) (p : Int32) (a b : Nat → Int32), (rn F G n q S k i p a b).2.1 = 0 → (rn F G n q S k i p a b).1 = -1000001
  | 0, _, _, _, _, _ => rfl
  | k + 1, i, p, a, b, h => by
    unfold rn at h ⊢
    by_cases c : fAt F G n (S.testBit i) i p q = 0
    · rw [if_pos c] at h ⊢; exact rn_none k _ _ _ _ h
    · rw [if_neg c] at h; exact absurd h c
theorem run_none {F G : Nat → Int32} {n : Nat} {q : Int32} {S : Nat} (h : metB F G n q S = true) : (runF F G n q S).1 = -1000001 := rn_none _ _ _ _ _ (of_decide_eq_true h)
section ASK
variable {F G : Nat → Int32} {n S : Nat} {w : Int32}
theorem runA_0m (h : w = 0) (hm : metB F G n (G 0) S = true) : -1000001 = runA F G n S w := by unfold runA; rw [if_pos h, run_none hm]
theorem runA_0 (h : w = 0) : (runF F G n (G 0) S).1 = runA F G n S w := by unfold runA; rw [if_pos h]
theorem runA_1 (h0 : ¬ w = 0) (h : w = 1) : (runF F G n (G 0) S).2.1 = runA F G n S w := by unfold runA; rw [if_neg h0, if_pos h]
theorem runA_2 (h0 : ¬ w = 0) (h : ¬ w = 1) : (runF F G n (G 0) S).2.2.2 n = runA F G n S w := by unfold runA; rw [if_neg h0, if_neg h]
theorem in49 {w : Int32} (h : inR w 4 9 = true) : ∃ k, 4 ≤ k ∧ k ≤ 9 ∧ w = nI k := by
  obtain ⟨h1, h2⟩ := inR_t.mp h
  obtain ⟨j, hj, rfl⟩ := nI_of2 (M := 9) (n := 9) (by decide) (Int32.not_lt.mpr (i3 (by decide) h1)) h2
  refine ⟨j, ?_, hj, rfl⟩
  have h3 : ¬ nI j < 4 := Int32.not_lt.mpr h1
  have h4 := mt (nI_ltI (a := j) (b := 4) (by omega) (by decide)).mpr h3
  omega
theorem cnt_set {L : Ln} {k : Nat} (h1 : 4 ≤ k) (h2 : k ≤ 9) : L.2.2.2 (k - 4) = cntF L (nI k) := by
  have : k = 4 ∨ k = 5 ∨ k = 6 ∨ k = 7 ∨ k = 8 ∨ k = 9 := by omega
  rcases this with rfl | rfl | rfl | rfl | rfl | rfl <;> rfl
theorem cnt_0 {L : Ln} (h : w = 0) : bcI L.2.1 = cntF L w := (if_pos h).symm
theorem cnt_1 {L : Ln} (h0 : ¬ w = 0) (h : w = 1) : L.2.1 = cntF L w := by unfold cntF; rw [if_neg h0, if_pos h]
theorem cnt_2 {L : Ln} (h0 : ¬ w = 0) (h1 : ¬ w = 1) (h : w = 2) : nI L.1 = cntF L w := by unfold cntF; rw [if_neg h0, if_neg h1, if_pos h]
theorem cnt_3 {L : Ln} (h0 : ¬ w = 0) (h1 : ¬ w = 1) (h2 : ¬ w = 2) (h : w = 3) : sumB L.2.2.1 L.1 = cntF L w := by unfold cntF; rw [if_neg h0, if_neg h1, if_neg h2, if_pos h]
theorem cnt_10 {L : Ln} (hr : inR w 0 10 = true) (hs : inR w 4 9 = false) (h0 : ¬ w = 0) (h1 : ¬ w = 1) (h2 : ¬ w = 2) (h3 : ¬ w = 3) : sumH L.2.2.1 L.1 = cntF L w := by
  have h10 : w = 10 := by
    obtain ⟨j, hj, rfl⟩ := inR_nI (n := 10) (by decide) hr
    have : j = 0 ∨ j = 1 ∨ j = 2 ∨ j = 3 ∨ j = 4 ∨ j = 5 ∨ j = 6 ∨ j = 7 ∨ j = 8 ∨ j = 9 ∨ j = 10 := by omega
    rcases this with rfl | rfl | rfl | rfl | rfl | rfl | rfl | rfl | rfl | rfl | rfl
    · exact absurd rfl h0
    · exact absurd rfl h1
    · exact absurd rfl h2
    · exact absurd rfl h3
    · exact absurd hs (by decide)
    · exact absurd hs (by decide)
    · exact absurd hs (by decide)
    · exact absurd hs (by decide)
    · exact absurd hs (by decide)
    · exact absurd hs (by decide)
    · rfl
  unfold cntF
  rw [if_neg h0, if_neg h1, if_neg h2, if_neg h3, if_pos h10]
theorem mn_x {x y : Int32} (h : x < y) : x = mn x y := by unfold mn; rw [if_neg (Int32.not_lt.mpr (Int32.le_of_lt h))]
theorem mn_y {x y : Int32} (h : ¬ x < y) : y = mn x y := by
  unfold mn
  by_cases c : y < x
  · rw [if_pos c]
  · rw [if_neg c]; exact Int32.le_antisymm (Int32.not_lt.mp h) (Int32.not_lt.mp c)
theorem told_3 {rb rn rf : Int32} {N sl k : Nat} (h : k < 3) : ref3 rb rn rf k = toldF rb rn rf N sl (nI k) := by
  have : k = 0 ∨ k = 1 ∨ k = 2 := by omega
  rcases this with rfl | rfl | rfl <;> rfl
theorem told_n {rb rn rf : Int32} {N sl k : Nat} (h : k = 3) : nI N = toldF rb rn rf N sl (nI k) := by rw [h]; rfl
theorem told_s {rb rn rf : Int32} {N sl k : Nat} (hk : k ≤ 4) (h : ¬ k < 3) (h2 : ¬ k = 3) : nI sl = toldF rb rn rf N sl (nI k) := by rw [show k = 4 by omega]; rfl
theorem mayB_w {c : Int32} {k : Nat} (h : k < nW c) (h5 : ¬ nW c = 5) : mayB c k = decide (k = 2) := by
  unfold mayB
  by_cases h1 : c = 104
  · rw [decide_eq_true h1, Bool.true_and]
  · rw [decide_eq_false h1, Bool.false_and]
    have : nW c ≤ 2 := by
      rcases nW_c h5 with q | q | q | q | q | q
      · exact absurd q h1
      all_goals (rw [q]; decide)
    exact (decide_eq_false (by omega)).symm
end ASK
