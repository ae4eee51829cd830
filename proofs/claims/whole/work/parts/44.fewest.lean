/-! THE FEWEST: what the class's search finds is what the reference finds by trying all sets. -/
def wt (i : Nat) : Nat := 2048 + 2 ^ i
def fwM (F G : Nat → Int32) (q : Int32) : Nat → Nat → Int32 → Nat → Nat
  | 0, _, p, e => if p < G 2 then 1073741824 else e
  | k + 1, i, p, e => min (if failF F i p q = 0 then fwM F G q k (i + 1) (p - lossF F i q) e else 1073741824) (if p < G 4 then 1073741824 else if failF F i (afterP G true p) q = 0 then fwM F G q k (i + 1) (afterP G true p - lossF F i q) (e + wt i) else 1073741824)
def fwC (F G : Nat → Int32) (q : Int32) (k i e : Nat) : Nat := if failF F i (G 3) q = 0 then fwM F G q k (i + 1) (G 3 - lossF F i q) e else 1073741824
def fwO (F G : Nat → Int32) (q : Int32) (n : Nat) : Nat → Nat → (Nat → Nat) → Nat
  | 0, _, b => b n
  | k + 1, i, b => min (fwC F G q k i (b i)) (fwO F G q n k (i + 1) b)
def updN (b : Nat → Nat) (i v : Nat) : Nat → Nat := fun j => if j = i then v else b j
def ldN (G : Nat → Int32) (i e : Nat) (p : Int32) (b : Nat → Nat) : Nat → Nat := if ¬ p < G 4 ∧ p < G 3 then updN b i (min (b i) (e + wt i)) else b
def leadN (F G : Nat → Int32) (q : Int32) (n e : Nat) : Nat → Nat → Int32 → (Nat → Nat) → Nat → Nat
  | 0, _, p, b => if p < G 2 then b else updN b n (min (b n) e)
  | k + 1, i, p, b => if failF F i p q = 0 then leadN F G q n e k (i + 1) (p - lossF F i q) (ldN G i e p b) else ldN G i e p b
def bsN (F G : Nat → Int32) (n : Nat) (q : Int32) : Nat → Nat → Nat
  | 0 => leadN F G q n 0 n 0 (G 1) (fun _ => 1073741824)
  | i + 1 => if bsN F G n q i i = 1073741824 then bsN F G n q i else leadN F G q n (bsN F G n q i i) (n - i) i (G 3) (bsN F G n q i)
theorem fwM_s {F G : Nat → Int32} {q : Int32} {k i : Nat} {p : Int32} {e : Nat} : fwM F G q (k + 1) i p e = min (if failF F i p q = 0 then fwM F G q k (i + 1) (p - lossF F i q) e else 1073741824) (if p < G 4 then 1073741824 else if failF F i (afterP G true p) q = 0 then fwM F G q k (i + 1) (afterP G true p - lossF F i q) (e + wt i) else 1073741824) := rfl
theorem bsN_s {F G : Nat → Int32} {n : Nat} {q : Int32} {i : Nat} : bsN F G n q (i + 1) = if bsN F G n q i i = 1073741824 then bsN F G n q i else leadN F G q n (bsN F G n q i i) (n - i) i (G 3) (bsN F G n q i) := rfl
theorem leadN_s {F G : Nat → Int32} {n e : Nat} {q : Int32} {k i : Nat} {p : Int32} {b : Nat → Nat} : leadN F G q n e (k + 1) i p b = if failF F i p q = 0 then leadN F G q n e k (i + 1) (p - lossF F i q) (ldN G i e p b) else ldN G i e p b := rfl
theorem lead_s2 {F G : Nat → Int32} {n : Nat} {q e : Int32} {k i : Nat} {p : Int32} {B : Nat → Int32} : lead F G n q e (k + 1) i p B = if failF F i p q = 0 then lead F G n q e k (i + 1) (p - lossF F i q) (ldB G i e p B) else ldB G i e p B := rfl
theorem bsI_s {F G : Nat → Int32} {n : Nat} {q : Int32} {i : Nat} : bsIter F G n q (i + 1) = if bsIter F G n q i i = 1073741824 then bsIter F G n q i else lead F G n q (bsIter F G n q i i) (n - i) i (G 3) (bsIter F G n q i) := rfl
theorem fw_mm {a b c d : Nat} (h1 : a ≤ c) (h2 : b ≤ d) : min a b ≤ min c d := by omega
theorem fw_lm {a b z : Nat} (h1 : z ≤ a) (h2 : z ≤ b) : z ≤ min a b := by omega
section FWM
variable {F G : Nat → Int32} {q : Int32} {n : Nat}
theorem fwM_mono : ∀ (k i : Nat) (p : Int32) {e e' : Nat}, e ≤ e' → fwM F G q k i p e ≤ fwM F G q k i p e'
  | 0, i, p, e, e', h => by
    unfold fwM
    by_cases c : p < G 2
    · rw [if_pos c, if_pos c]; exact Nat.le_refl _
    · rw [if_neg c, if_neg c]; exact h
  | k + 1, i, p, e, e', h => by
    unfold fwM
    refine fw_mm ?_ ?_
    · by_cases c : failF F i p q = 0
      · rw [if_pos c, if_pos c]; exact fwM_mono k _ _ h
      · rw [if_neg c, if_neg c]; exact Nat.le_refl _
    · by_cases c : p < G 4
      · rw [if_pos c, if_pos c]; exact Nat.le_refl _
      · rw [if_neg c, if_neg c]
        by_cases c : failF F i (afterP G true p) q = 0
        · rw [if_pos c, if_pos c]; exact fwM_mono k _ _ (Nat.add_le_add_right h _)
        · rw [if_neg c, if_neg c]; exact Nat.le_refl _
theorem fwM_big : ∀ (k i : Nat) (p : Int32) {e : Nat}, 1073741824 ≤ e → 1073741824 ≤ fwM F G q k i p e
  | 0, i, p, e, h => by
    unfold fwM
    by_cases c : p < G 2
    · rw [if_pos c]; exact Nat.le_refl _
    · rw [if_neg c]; exact h
  | k + 1, i, p, e, h => by
    unfold fwM
    refine fw_lm ?_ ?_
    · by_cases c : failF F i p q = 0
      · rw [if_pos c]; exact fwM_big k _ _ h
      · rw [if_neg c]; exact Nat.le_refl _
    · by_cases c : p < G 4
      · rw [if_pos c]; exact Nat.le_refl _
      · rw [if_neg c]
        by_cases c : failF F i (afterP G true p) q = 0
        · rw [if_pos c]; exact fwM_big k _ _ (Nat.le_trans h (Nat.le_add_right _ _))
        · rw [if_neg c]; exact Nat.le_refl _
theorem fwC_mono (k i : Nat) {e e' : Nat} (h : e ≤ e') : fwC F G q k i e ≤ fwC F G q k i e' := by
  unfold fwC
  by_cases c : failF F i (G 3) q = 0
  · rw [if_pos c, if_pos c]; exact fwM_mono k _ _ h
  · rw [if_neg c, if_neg c]; exact Nat.le_refl _
theorem fwC_big (k i : Nat) : 1073741824 ≤ fwC F G q k i 1073741824 := by
  unfold fwC
  by_cases c : failF F i (G 3) q = 0
  · rw [if_pos c]; exact fwM_big k _ _ (Nat.le_refl _)
  · rw [if_neg c]; exact Nat.le_refl _
theorem fwC_min (k i a b : Nat) : fwC F G q k i (min a b) = min (fwC F G q k i a) (fwC F G q k i b) := by
  rcases Nat.le_total a b with h | h
  · rw [Nat.min_eq_left h, Nat.min_eq_left (fwC_mono k i h)]
  · rw [Nat.min_eq_right h, Nat.min_eq_right (fwC_mono k i h)]
theorem fwO_le {b : Nat → Nat} (h : b n ≤ 1073741824) : ∀ (k i : Nat), fwO F G q n k i b ≤ 1073741824
  | 0, _ => h
  | k + 1, i => Nat.le_trans (Nat.min_le_right _ _) (fwO_le h k (i + 1))
theorem fwO_congr {b b' : Nat → Nat} : ∀ (k i : Nat), i + k = n → (∀ j, i ≤ j → b j = b' j) → fwO F G q n k i b = fwO F G q n k i b'
  | 0, i, hk, h => h n (by omega)
  | k + 1, i, hk, h => by
    show min _ _ = min _ _
    rw [h i (Nat.le_refl _), fwO_congr k (i + 1) (by omega) (fun j hj => h j (by omega))]
theorem updN_s {b : Nat → Nat} {i v : Nat} : updN b i v i = v := if_pos rfl
theorem updN_n {b : Nat → Nat} {i j v : Nat} (h : ¬ j = i) : updN b i v j = b j := if_neg h
theorem ldN_n {i e j : Nat} {p : Int32} {b : Nat → Nat} (h : ¬ j = i) : ldN G i e p b j = b j := by
  unfold ldN
  by_cases c : ¬ p < G 4 ∧ p < G 3
  · rw [if_pos c, updN_n h]
  · rw [if_neg c]
theorem ldN_le {i e : Nat} {p : Int32} {b : Nat → Nat} (h : ∀ j, b j ≤ 1073741824) (j : Nat) : ldN G i e p b j ≤ 1073741824 := by
  unfold ldN
  by_cases c : ¬ p < G 4 ∧ p < G 3
  · rw [if_pos c]
    by_cases c2 : j = i
    · rw [c2, updN_s]; exact Nat.le_trans (Nat.min_le_left _ _) (h i)
    · rw [updN_n c2]; exact h j
  · rw [if_neg c]; exact h j
theorem leadN_lt {e : Nat} : ∀ (k i : Nat) (p : Int32) (b : Nat → Nat) (j : Nat), j < i → i + k = n → leadN F G q n e k i p b j = b j
  | 0, i, p, b, j, h, hk => by
    unfold leadN
    by_cases c : p < G 2
    · rw [if_pos c]
    · rw [if_neg c, updN_n (by omega)]
  | k + 1, i, p, b, j, h, hk => by
    unfold leadN
    by_cases c : failF F i p q = 0
    · rw [if_pos c, leadN_lt k (i + 1) _ _ j (by omega) (by omega), ldN_n (by omega)]
    · rw [if_neg c, ldN_n (by omega)]
theorem leadN_le {e : Nat} : ∀ (k i : Nat) (p : Int32) (b : Nat → Nat), (∀ j, b j ≤ 1073741824) → ∀ j, leadN F G q n e k i p b j ≤ 1073741824
  | 0, i, p, b, h, j => by
    unfold leadN
    by_cases c : p < G 2
    · rw [if_pos c]; exact h j
    · rw [if_neg c]
      by_cases c2 : j = n
      · rw [c2, updN_s]; exact Nat.le_trans (Nat.min_le_left _ _) (h n)
      · rw [updN_n c2]; exact h j
  | k + 1, i, p, b, h, j => by
    unfold leadN
    by_cases c : failF F i p q = 0
    · rw [if_pos c]; exact leadN_le k _ _ _ (ldN_le h) j
    · rw [if_neg c]; exact ldN_le h j
theorem leadN_O {e : Nat} : ∀ (k i : Nat) (p : Int32) (b : Nat → Nat), i + k = n → b n ≤ 1073741824 → fwO F G q n k i (leadN F G q n e k i p b) = min (fwO F G q n k i b) (fwM F G q k i p e)
  | 0, i, p, b, hk, h => by
    show leadN F G q n e 0 i p b n = min (b n) _
    unfold leadN fwM
    by_cases c : p < G 2
    · rw [if_pos c, if_pos c, Nat.min_eq_left h]
    · rw [if_neg c, if_neg c, updN_s]
  | k + 1, i, p, b, hk, h => by
    have hO : fwO F G q n k (i + 1) (ldN G i e p b) = fwO F G q n k (i + 1) b := fwO_congr k (i + 1) (by omega) (fun j hj => ldN_n (by omega))
    have hOle : fwO F G q n k (i + 1) b ≤ 1073741824 := fwO_le h k (i + 1)
    have hbn : ldN G i e p b n ≤ 1073741824 := by rw [ldN_n (by omega)]; exact h
    have ih := leadN_O (e := e) k (i + 1) (p - lossF F i q) (ldN G i e p b) (by omega) hbn
    rw [hO] at ih
    have hlt : leadN F G q n e k (i + 1) (p - lossF F i q) (ldN G i e p b) i = ldN G i e p b i := leadN_lt k (i + 1) _ _ i (by omega) (by omega)
    have hL : fwO F G q n (k + 1) i (leadN F G q n e (k + 1) i p b) = min (fwC F G q k i (ldN G i e p b i)) (if failF F i p q = 0 then min (fwO F G q n k (i + 1) b) (fwM F G q k (i + 1) (p - lossF F i q) e) else fwO F G q n k (i + 1) b) := by
      unfold leadN
      by_cases c : failF F i p q = 0
      · rw [if_pos c, if_pos c]
        show min (fwC F G q k i _) (fwO F G q n k (i + 1) _) = _
        rw [ih, hlt]
      · rw [if_neg c, if_neg c]
        show min (fwC F G q k i _) (fwO F G q n k (i + 1) _) = _
        rw [hO]
    rw [hL]
    show _ = min (min (fwC F G q k i (b i)) (fwO F G q n k (i + 1) b)) (fwM F G q (k + 1) i p e)
    generalize hX : fwO F G q n k (i + 1) b = X at hOle ⊢
    rw [fwM_s]
    clear hL ih hO hX
    by_cases c4 : p < G 4
    · rw [if_pos c4]
      have hl : ldN G i e p b = b := by unfold ldN; exact if_neg (fun h1 => h1.1 c4)
      rw [hl]
      by_cases c : failF F i p q = 0
      · rw [if_pos c, if_pos c]; omega
      · rw [if_neg c, if_neg c]; omega
    · rw [if_neg c4]
      by_cases c3 : p < G 3
      · have hl : ldN G i e p b i = min (b i) (e + wt i) := by unfold ldN; rw [if_pos ⟨c4, c3⟩, updN_s]
        have ha : afterP G true p = G 3 := by rw [afterP_t, if_pos c3]
        rw [hl, ha, fwC_min]
        have hy : fwC F G q k i (e + wt i) = if failF F i (G 3) q = 0 then fwM F G q k (i + 1) (G 3 - lossF F i q) (e + wt i) else 1073741824 := rfl
        rw [← hy]
        by_cases c : failF F i p q = 0
        · rw [if_pos c, if_pos c]; omega
        · rw [if_neg c, if_neg c]; omega
      · have hl : ldN G i e p b = b := by unfold ldN; exact if_neg (fun h1 => c3 h1.2)
        have ha : afterP G true p = p := by rw [afterP_t, if_neg c3]
        rw [hl, ha]
        by_cases c : failF F i p q = 0
        · rw [if_pos c, if_pos c, if_pos c]
          have := fwM_mono (F := F) (G := G) (q := q) k (i + 1) (p - lossF F i q) (Nat.le_add_right e (wt i))
          omega
        · rw [if_neg c, if_neg c, if_neg c]; omega
theorem bsN_le : ∀ i j, bsN F G n q i j ≤ 1073741824
  | 0, j => leadN_le n 0 _ _ (fun _ => Nat.le_refl _) j
  | i + 1, j => by
    rw [bsN_s]
    by_cases c : bsN F G n q i i = 1073741824
    · rw [if_pos c]; exact bsN_le i j
    · rw [if_neg c]; exact leadN_le _ _ _ _ (bsN_le i) j
theorem fwO_Z : ∀ (k i : Nat), fwO F G q n k i (fun _ => 1073741824) = 1073741824
  | 0, _ => rfl
  | k + 1, i => by
    show min _ _ = _
    rw [fwO_Z k (i + 1)]
    exact Nat.min_eq_right (fwC_big k i)
theorem bsN_O : ∀ i, i ≤ n → fwO F G q n (n - i) i (bsN F G n q i) = min 1073741824 (fwM F G q n 0 (G 1) 0)
  | 0, _ => by
    show fwO F G q n n 0 (leadN F G q n 0 n 0 (G 1) _) = _
    rw [leadN_O n 0 _ _ (by omega) (Nat.le_refl _), fwO_Z]
  | i + 1, hi => by
    have ih := bsN_O i (by omega)
    rw [← ih, show n - i = (n - (i + 1)) + 1 by omega]
    show _ = min (fwC F G q (n - (i + 1)) i (bsN F G n q i i)) (fwO F G q n (n - (i + 1)) (i + 1) (bsN F G n q i))
    have hle : fwO F G q n (n - (i + 1)) (i + 1) (bsN F G n q i) ≤ 1073741824 := fwO_le (bsN_le i n) _ _
    rw [bsN_s]
    by_cases c : bsN F G n q i i = 1073741824
    · rw [if_pos c, c]
      have := fwC_big (F := F) (G := G) (q := q) (n - (i + 1)) i
      exact (Nat.min_eq_right (Nat.le_trans hle this)).symm
    · rw [if_neg c]
      generalize hb : bsN F G n q i = b at hle ⊢
      generalize he : b i = e
      rw [show n - i = (n - (i + 1)) + 1 by omega]
      rw [leadN_s]
      have hl : ldN G i e (G 3) b = b := by unfold ldN; exact if_neg (fun h1 => Int32.lt_irrefl h1.2)
      rw [hl]
      have hbn : b n ≤ 1073741824 := by rw [← hb]; exact bsN_le i n
      unfold fwC
      by_cases c2 : failF F i (G 3) q = 0
      · rw [if_pos c2, if_pos c2, leadN_O _ _ _ _ (by omega) hbn, Nat.min_comm]
      · rw [if_neg c2, if_neg c2]; exact (Nat.min_eq_right hle).symm
theorem bsN_end : bsN F G n q n n = min 1073741824 (fwM F G q n 0 (G 1) 0) := by
  have h := bsN_O (F := F) (G := G) (q := q) n (Nat.le_refl n)
  rw [Nat.sub_self] at h
  exact h
end FWM
/-! the same in the class's numbers -/
section FWI
variable {F G : Nat → Int32} {q : Int32} {n : Nat}
theorem mn_N {a b : Nat} (ha : a < 2147483648) (hb : b < 2147483648) : mn (nI a) (nI b) = nI (min a b) := by
  unfold mn
  by_cases c : b < a
  · rw [if_pos ((nI_ltI hb ha).mpr c), Nat.min_eq_right (by omega)]
  · rw [if_neg (fun h => c ((nI_ltI hb ha).mp h)), Nat.min_eq_left (by omega)]
theorem upd_N (b : Nat → Nat) (i v : Nat) : upd (fun j => nI (b j)) i (nI v) = fun j => nI (updN b i v j) := by
  funext j
  by_cases c : j = i
  · subst c; rw [pk_us, updN_s]
  · rw [pk_un c, updN_n c]
theorem wt_lt {i : Nat} (hi : i ≤ 10) : wt i ≤ 3072 := by
  have : 2 ^ i ≤ 2 ^ 10 := Nat.pow_le_pow_right (by decide) hi
  unfold wt; omega
theorem ldB_N {i e : Nat} {p : Int32} {b : Nat → Nat} (hi : i ≤ 10) (he : e ≤ 1073741824) (hb : ∀ j, b j ≤ 1073741824) : ldB G i (nI e) p (fun j => nI (b j)) = fun j => nI (ldN G i e p b j) := by
  unfold ldB ldN
  by_cases c : ¬ p < G 4 ∧ p < G 3
  · rw [if_pos c, if_pos c, ← upd_N]
    have hw := wt_lt hi
    have hbi := hb i
    rw [bit_sh i (by omega), show nI e + 2048 + nI (2 ^ i) = nI (e + wt i) by rw [show nI e + 2048 = nI (e + 2048) from nI_add e 2048, nI_add]; unfold wt; rw [Nat.add_assoc], mn_N (by omega) (by omega)]
  · rw [if_neg c, if_neg c]
theorem lead_N {e : Nat} (hn : n ≤ 10) (he : e ≤ 1073741824) : ∀ (k i : Nat) (p : Int32) (b : Nat → Nat), i + k = n → (∀ j, b j ≤ 1073741824) → lead F G n q (nI e) k i p (fun j => nI (b j)) = fun j => nI (leadN F G q n e k i p b j)
  | 0, i, p, b, hk, hb => by
    unfold lead leadN
    by_cases c : p < G 2
    · rw [if_pos c, if_pos c]
    · have hbn := hb n
      rw [if_neg c, if_neg c, mn_N (by omega) (by omega), upd_N]
  | k + 1, i, p, b, hk, hb => by
    rw [lead_s2, leadN_s, ldB_N (by omega) he hb]
    by_cases c : failF F i p q = 0
    · rw [if_pos c, if_pos c]; exact lead_N hn he k (i + 1) _ _ (by omega) (ldN_le hb)
    · rw [if_neg c, if_neg c]
theorem bs_N (hn : n ≤ 10) : ∀ i, i ≤ n → bsIter F G n q i = fun j => nI (bsN F G n q i j)
  | 0, _ => by
    unfold bsIter bsN
    exact lead_N (e := 0) hn (by decide) n 0 (G 1) (fun _ => 1073741824) (by omega) (fun _ => Nat.le_refl _)
  | i + 1, hi => by
    have ih := bs_N hn i (by omega)
    have hle := bsN_le (F := F) (G := G) (n := n) (q := q) i i
    rw [bsI_s, bsN_s, ih]
    by_cases c : bsN F G n q i i = 1073741824
    · rw [if_pos c]; exact if_pos (by show nI _ = _; rw [c]; rfl)
    · rw [if_neg c]
      refine (if_neg (fun h => c ((nI_eq (a := bsN F G n q i i) (b := 1073741824) (by omega) (by decide)).mp h))).trans ?_
      exact lead_N hn hle (n - i) i (G 3) _ (by omega) (bsN_le i)
theorem best_N (hn : n ≤ 10) : bestF F G n q = nI (min 1073741824 (fwM F G q n 0 (G 1) 0)) := by
  unfold bestF
  rw [bs_N hn n (Nat.le_refl n)]
  show nI (bsN F G n q n n) = _
  rw [bsN_end]
end FWI
/-! all sets -/
section ALL
variable {F G : Nat → Int32} {q : Int32} {n : Nat}
def okR (F G : Nat → Int32) (q : Int32) (n S : Nat) : Nat → Nat → Int32 → Prop
  | 0, _, p => ¬ p < G 2
  | k + 1, i, p => fAt F G n (S.testBit i) i p q = 0 ∧ okR F G q n S k (i + 1) (afterP G (S.testBit i) p - lossF F i q)
def esF (S : Nat) : Nat → Nat → Nat
  | 0, _ => 0
  | k + 1, i => (if S.testBit i = true then wt i else 0) + esF S k (i + 1)
theorem okR_rn {S : Nat} (hS : S.testBit n = false) : ∀ (k i : Nat) (p : Int32) (a b : Nat → Int32), i + k = n → ((rn F G n q S (k + 1) i p a b).2.1 = 0 ↔ okR F G q n S k i p)
  | 0, i, p, a, b, hk => by
    have hi : i = n := by omega
    subst hi
    show (if fAt F G i (S.testBit i) i p q = 0 then rn F G i q S 0 _ _ _ _ else _).2.1 = 0 ↔ ¬ p < G 2
    rw [hS]
    by_cases c : p < G 2
    · rw [fAt_5 (Or.inl rfl) (Nat.lt_irrefl i) c, if_neg (by decide)]
      exact ⟨fun h => absurd (show (5 : Int32) = 0 from h) (by decide), fun h => absurd c h⟩
    · rw [fAt_0 (Or.inl rfl) (Nat.lt_irrefl i) c, if_pos rfl]
      exact ⟨fun _ => c, fun _ => rfl⟩
  | k + 1, i, p, a, b, hk => by
    show (if fAt F G n (S.testBit i) i p q = 0 then rn F G n q S (k + 1) _ _ _ _ else _).2.1 = 0 ↔ _ ∧ _
    by_cases c : fAt F G n (S.testBit i) i p q = 0
    · rw [if_pos c, okR_rn hS k (i + 1) _ _ _ (by omega)]
      exact ⟨fun h => ⟨c, h⟩, fun h => h.2⟩
    · rw [if_neg c]
      exact ⟨fun h => absurd h c, fun h => absurd h.1 c⟩
theorem fAt_span {t : Bool} {i : Nat} {p : Int32} (hi : i < n) (h : fAt F G n t i p q = 0) : (t = false ∨ ¬ p < G 4) ∧ failF F i (afterP G t p) q = 0 := by
  unfold fAt at h
  by_cases c : t = true ∧ p < G 4
  · rw [if_pos c] at h; exact absurd h (by decide)
  · rw [if_neg c, if_pos hi] at h
    refine ⟨?_, h⟩
    cases t with
    | false => exact Or.inl rfl
    | true => exact Or.inr (fun h2 => c ⟨rfl, h2⟩)
theorem fwM_low {S : Nat} : ∀ (k i : Nat) (p : Int32) (e : Nat), i + k = n → okR F G q n S k i p → fwM F G q k i p e ≤ e + esF S k i
  | 0, i, p, e, _, h => Nat.le_of_eq (if_neg h)
  | k + 1, i, p, e, hk, h => by
    obtain ⟨h1, h2⟩ := h
    obtain ⟨h3, h4⟩ := fAt_span (by omega) h1
    have h0 : esF S (k + 1) i = (if S.testBit i = true then wt i else 0) + esF S k (i + 1) := rfl
    rw [fwM_s, h0]
    cases hb : S.testBit i with
    | false =>
      rw [hb] at h2 h4
      rw [afterP_f] at h2 h4
      rw [if_pos h4, show (if false = true then wt i else 0) = 0 from rfl]
      have := fwM_low k (i + 1) _ e (by omega) h2
      exact Nat.le_trans (Nat.min_le_left _ _) (by omega)
    | true =>
      rw [hb] at h2 h3 h4
      rw [if_neg (h3.resolve_left (by decide)), if_pos h4, if_pos rfl]
      have := fwM_low k (i + 1) _ (e + wt i) (by omega) h2
      exact Nat.le_trans (Nat.min_le_right _ _) (by omega)
theorem okR_congr {S S' : Nat} : ∀ (k i : Nat) (p : Int32), (∀ j, i ≤ j → S.testBit j = S'.testBit j) → okR F G q n S k i p → okR F G q n S' k i p
  | 0, _, _, _, h => h
  | k + 1, i, p, hs, h => by
    obtain ⟨h1, h2⟩ := h
    have e := hs i (Nat.le_refl i)
    rw [e] at h1 h2
    exact ⟨h1, okR_congr k (i + 1) _ (fun j hj => hs j (by omega)) h2⟩
theorem esF_congr {S S' : Nat} : ∀ (k i : Nat), (∀ j, i ≤ j → S.testBit j = S'.testBit j) → esF S k i = esF S' k i
  | 0, _, _ => rfl
  | k + 1, i, hs => by
    show (if S.testBit i = true then wt i else 0) + esF S k (i + 1) = (if S'.testBit i = true then wt i else 0) + esF S' k (i + 1)
    rw [hs i (Nat.le_refl i), esF_congr k (i + 1) (fun j hj => hs j (by omega))]
theorem fAt_g {t : Bool} {i : Nat} {p : Int32} (hi : i < n) (h : t = false ∨ ¬ p < G 4) (h2 : failF F i (afterP G t p) q = 0) : fAt F G n t i p q = 0 := (fAt_s h hi).trans h2
theorem fwM_has : ∀ (k i : Nat) (p : Int32) (e : Nat), i + k = n → 1073741824 ≤ fwM F G q k i p e ∨ ∃ S, S < 2 ^ n ∧ (∀ j, j < i → S.testBit j = false) ∧ okR F G q n S k i p ∧ fwM F G q k i p e = e + esF S k i
  | 0, i, p, e, hk => by
    unfold fwM
    by_cases c : p < G 2
    · rw [if_pos c]; exact Or.inl (Nat.le_refl _)
    · rw [if_neg c]; exact Or.inr ⟨0, Nat.two_pow_pos n, fun j _ => Nat.zero_testBit j, c, rfl⟩
  | k + 1, i, p, e, hk => by
    rw [fwM_s]
    have hA : 1073741824 ≤ (if failF F i p q = 0 then fwM F G q k (i + 1) (p - lossF F i q) e else 1073741824) ∨ ∃ S, S < 2 ^ n ∧ (∀ j, j < i → S.testBit j = false) ∧ okR F G q n S (k + 1) i p ∧ (if failF F i p q = 0 then fwM F G q k (i + 1) (p - lossF F i q) e else 1073741824) = e + esF S (k + 1) i := by
      by_cases c : failF F i p q = 0
      · rw [if_pos c]
        rcases fwM_has k (i + 1) (p - lossF F i q) e (by omega) with h | ⟨S, h1, h2, h3, h4⟩
        · exact Or.inl h
        · refine Or.inr ⟨S, h1, fun j hj => h2 j (by omega), ⟨?_, ?_⟩, ?_⟩
          · rw [h2 i (by omega)]; exact fAt_g (by omega) (Or.inl rfl) c
          · rw [h2 i (by omega)]; exact h3
          · show _ = e + ((if S.testBit i = true then wt i else 0) + esF S k (i + 1))
            rw [h2 i (by omega), if_neg (by decide), h4]; omega
      · rw [if_neg c]; exact Or.inl (Nat.le_refl _)
    have hB : 1073741824 ≤ (if p < G 4 then 1073741824 else if failF F i (afterP G true p) q = 0 then fwM F G q k (i + 1) (afterP G true p - lossF F i q) (e + wt i) else 1073741824) ∨ ∃ S, S < 2 ^ n ∧ (∀ j, j < i → S.testBit j = false) ∧ okR F G q n S (k + 1) i p ∧ (if p < G 4 then 1073741824 else if failF F i (afterP G true p) q = 0 then fwM F G q k (i + 1) (afterP G true p - lossF F i q) (e + wt i) else 1073741824) = e + esF S (k + 1) i := by
      by_cases c4 : p < G 4
      · rw [if_pos c4]; exact Or.inl (Nat.le_refl _)
      · rw [if_neg c4]
        by_cases c : failF F i (afterP G true p) q = 0
        · rw [if_pos c]
          rcases fwM_has k (i + 1) (afterP G true p - lossF F i q) (e + wt i) (by omega) with h | ⟨S, h1, h2, h3, h4⟩
          · exact Or.inl h
          · have hbi : (S ||| 2 ^ i).testBit i = true := by rw [Nat.testBit_or, Nat.testBit_two_pow_self, Bool.or_true]
            have hbj : ∀ j, ¬ j = i → (S ||| 2 ^ i).testBit j = S.testBit j := fun j hj => by rw [Nat.testBit_or, Nat.testBit_two_pow_of_ne (Ne.symm hj), Bool.or_false]
            refine Or.inr ⟨S ||| 2 ^ i, Nat.or_lt_two_pow h1 (Nat.pow_lt_pow_right (by decide) (by omega)), fun j hj => by rw [hbj j (by omega)]; exact h2 j (by omega), ⟨?_, ?_⟩, ?_⟩
            · rw [hbi]; exact fAt_g (by omega) (Or.inr c4) c
            · rw [hbi]; exact okR_congr k (i + 1) _ (fun j hj => (hbj j (by omega)).symm) h3
            · show _ = e + ((if (S ||| 2 ^ i).testBit i = true then wt i else 0) + esF (S ||| 2 ^ i) k (i + 1))
              rw [hbi, if_pos rfl, h4, esF_congr k (i + 1) (fun j hj => hbj j (by omega))]; omega
        · rw [if_neg c]; exact Or.inl (Nat.le_refl _)
    generalize (if failF F i p q = 0 then fwM F G q k (i + 1) (p - lossF F i q) e else 1073741824) = A at hA ⊢
    generalize (if p < G 4 then 1073741824 else if failF F i (afterP G true p) q = 0 then fwM F G q k (i + 1) (afterP G true p - lossF F i q) (e + wt i) else 1073741824) = B at hB ⊢
    rcases Nat.le_total A B with h | h
    · rw [Nat.min_eq_left h]; exact hA
    · rw [Nat.min_eq_right h]; exact hB
def encF (s : Nat) : Nat := pcn s * 2048 + s
theorem es_all : (List.range 11).all (fun m => (List.range (2 ^ m)).all (fun s => decide (esF s m 0 = encF s))) = true := by decide +kernel
theorem es_enc {s : Nat} (hn : n ≤ 10) (hs : s < 2 ^ n) : esF s n 0 = encF s := by
  have h1 := List.all_eq_true.mp es_all n (List.mem_range.mpr (by omega))
  exact of_decide_eq_true (List.all_eq_true.mp h1 s (List.mem_range.mpr hs))
theorem met_ok {S : Nat} (hS : S < 2 ^ n) : metB F G n q S = true ↔ okR F G q n S n 0 (G 1) := by
  unfold metB runF
  rw [decide_eq_true_iff]
  exact okR_rn (Nat.testBit_lt_two_pow hS) n 0 _ _ _ (by omega)
theorem bcI_N {s : Nat} (hs : s < 2048) : bcI (nI s) = nI (pcn s) := by unfold bcI; rw [pl_nI (by omega)]
theorem nI_cN {s : Nat} (hs : s < 2048) : ¬ nI s = -1000001 := fun h => by
  have := congrArg Int32.toInt h
  rw [nI_toInt (by omega), show (-1000001 : Int32).toInt = -1000001 from by decide] at this
  omega
theorem enc_lm {a m t : Nat} (h : encF m ≤ encF t) (hc : pcn a < pcn m) (ha : a < 2048) : encF a ≤ encF t := by
  have h1 : (pcn a + 1) * 2048 ≤ pcn m * 2048 := Nat.mul_le_mul_right _ hc
  rw [Nat.add_mul, Nat.one_mul] at h1
  exact Nat.le_trans (Nat.le_trans (Nat.add_le_add_left (Nat.le_of_lt ha) _) h1) (Nat.le_trans (Nat.le_add_right _ m) h)
theorem nI_big {a : Nat} (ha : a < 30000) : ¬ nI a = 1073741824 := fun h => absurd ((nI_eq (a := a) (b := 1073741824) (by omega) (by decide)).mp h) (by omega)
/-- what trying all sets finds: the least -/
theorem br_least : ∀ s, s ≤ 2048 → (brF F G n q s = -1000001 ∧ ∀ t, t < s → metB F G n q t = false) ∨ ∃ m, m < s ∧ brF F G n q s = nI m ∧ metB F G n q m = true ∧ ∀ t, t < s → metB F G n q t = true → encF m ≤ encF t
  | 0, _ => Or.inl ⟨rfl, fun t ht => absurd ht (Nat.not_lt_zero t)⟩
  | s + 1, hs => by
    rcases br_least s (by omega) with ⟨h1, h2⟩ | ⟨m, h1, h2, h3, h4⟩
    · cases hm : metB F G n q s with
      | true =>
        refine Or.inr ⟨s, Nat.lt_succ_self s, (brF_t (fwB_1 h1) hm).symm, hm, fun t ht hmt => ?_⟩
        rcases Nat.lt_or_ge t s with hl | hl
        · rw [h2 t hl] at hmt; cases hmt
        · rw [show t = s by omega]; exact Nat.le_refl _
      | false =>
        refine Or.inl ⟨(brF_f2 hm).symm.trans h1, fun t ht => ?_⟩
        rcases Nat.lt_or_ge t s with hl | hl
        · exact h2 t hl
        · rw [show t = s by omega]; exact hm
    · have hps := pcn_lt s (by omega)
      have hpm := pcn_lt m (by omega)
      have hcmp : bcI (nI s) < bcI (brF F G n q s) ↔ pcn s < pcn m := by
        rw [h2, bcI_N (by omega), bcI_N (by omega)]
        exact nI_ltI (by omega) (by omega)
      cases hm : metB F G n q s with
      | true =>
        by_cases c : pcn s < pcn m
        · refine Or.inr ⟨s, Nat.lt_succ_self s, (brF_t (fwB_2 (hcmp.mpr c)) hm).symm, hm, fun t ht hmt => ?_⟩
          rcases Nat.lt_or_ge t s with hl | hl
          · have := h4 t hl hmt
            exact enc_lm this c (by omega)
          · rw [show t = s by omega]; exact Nat.le_refl _
        · refine Or.inr ⟨m, by omega, ?_, h3, fun t ht hmt => ?_⟩
          · rw [← brF_f1 (fwB_0 (by rw [h2]; exact nI_cN (by omega)) (fun h => c (hcmp.mp h)))]; exact h2
          · rcases Nat.lt_or_ge t s with hl | hl
            · exact h4 t hl hmt
            · rw [show t = s by omega]; unfold encF; omega
      | false =>
        refine Or.inr ⟨m, by omega, (brF_f2 hm).symm.trans h2, h3, fun t ht hmt => ?_⟩
        rcases Nat.lt_or_ge t s with hl | hl
        · exact h4 t hl hmt
        · rw [show t = s by omega, hm] at hmt; cases hmt
theorem enc_inj {a b : Nat} (ha : a < 2048) (hb : b < 2048) (h : encF a = encF b) : a = b := by unfold encF at h; omega
theorem enc_lt {a : Nat} (ha : a < 2048) : encF a < 30000 := by have := pcn_lt a ha; unfold encF; omega
theorem sz_enc {a : Nat} (ha : a < 2048) : szI (nI (encF a)) = nI (pcn a) := by
  have h := enc_lt ha
  unfold szI
  rw [show (2048 : Int32) = nI 2048 from rfl, pk_div (by omega) (by decide) (by decide), show encF a / 2048 = pcn a by unfold encF; omega]
theorem bt_enc {a : Nat} (ha : a < 2048) : btI (nI (encF a)) = nI a := by
  have h := enc_lt ha
  unfold btI
  rw [show (2048 : Int32) = nI 2048 from rfl, pk_rem (by omega) (by decide) (by decide), show encF a % 2048 = a by unfold encF; omega]
theorem few_main (hn : n ≤ 10) : (bestF F G n q = 1073741824 ∧ brF F G n q (2 ^ n) = -1000001) ∨ ∃ m, m < 1024 ∧ bestF F G n q = nI (encF m) ∧ brF F G n q (2 ^ n) = nI m := by
  have hp := pow10 hn
  rw [best_N hn]
  rcases fwM_has (F := F) (G := G) (q := q) (n := n) n 0 (G 1) 0 (by omega) with h | ⟨S, h1, -, h3, h4⟩
  · refine Or.inl ⟨by rw [Nat.min_eq_left h]; rfl, ?_⟩
    rcases br_least (F := F) (G := G) (n := n) (q := q) (2 ^ n) (by omega) with ⟨g1, -⟩ | ⟨m, g1, -, g3, -⟩
    · exact g1
    · exfalso
      have h5 := fwM_low n 0 (G 1) 0 (by omega) ((met_ok g1).mp g3)
      rw [es_enc hn g1] at h5
      have := enc_lt (a := m) (by omega)
      omega
  · rw [es_enc hn h1, Nat.zero_add] at h4
    have h6 := enc_lt (a := S) (by omega)
    have hm := (met_ok h1).mpr h3
    rcases br_least (F := F) (G := G) (n := n) (q := q) (2 ^ n) (by omega) with ⟨-, g2⟩ | ⟨m, g1, g2, g3, g4⟩
    · rw [g2 S h1] at hm; cases hm
    · have h7 := g4 S h1 hm
      have h8 := fwM_low n 0 (G 1) 0 (by omega) ((met_ok g1).mp g3)
      rw [es_enc hn g1] at h8
      have h9 : S = m := enc_inj (by omega) (by omega) (by omega)
      refine Or.inr ⟨S, by omega, by rw [h4, Nat.min_eq_right (by omega)], by rw [g2, h9]⟩
theorem few_eq (hn : n ≤ 10) (w : Int32) : fewF F G n q w = few2 F G n q w := by
  unfold fewF few2
  rcases few_main (F := F) (G := G) (q := q) hn with ⟨h1, h2⟩ | ⟨m, h0, h1, h2⟩
  · rw [if_pos h1, if_pos h2]
  · have h3 := enc_lt (a := m) (by omega)
    rw [h1, h2, if_neg (nI_big h3), if_neg (nI_cN (by omega)), sz_enc (by omega), bt_enc (by omega), bcI_N (by omega)]
theorem lay_eq {L : Ln} (hn : L.1 ≤ 10) : lay1 L = lay2 L := by
  unfold lay1 lay2
  rcases few_main (F := L.2.2.1) (G := L.2.2.2) (q := L.2.2.2 0) hn with ⟨h1, h2⟩ | ⟨m, h0, h1, h2⟩
  · rw [if_pos h1, if_pos h2]
  · have h3 := enc_lt (a := m) (by omega)
    rw [h1, h2, if_neg (nI_big h3), if_neg (nI_cN (by omega)), sz_enc (by omega), bt_enc (by omega), bcI_N (by omega)]
theorem dig_eq (hn : n ≤ 10) (rb rn rf : Int32) (N sl S : Nat) : digF rb rn rf N sl n S F G = digM rb rn rf N sl n S F G := by
  rw [digF_eq, few_eq hn, few_eq hn]; rfl
theorem lay_ok {L : Ln} (h : okLn L) : okLn (lay2 L).2 ∧ (isRef (lay2 L).1 = true → (lay2 L).2 = L) := by
  have hp := pow10 h.1
  unfold lay2
  by_cases c : brF L.2.2.1 L.2.2.2 L.1 (L.2.2.2 0) (2 ^ L.1) = -1000001
  · rw [if_pos c]; exact ⟨h, fun _ => rfl⟩
  · rw [if_neg c]
    have hq := brF_pump (F := L.2.2.1) (G := L.2.2.2) (n := L.1) (q := L.2.2.2 0) (by omega) c
    exact ⟨⟨h.1, hq, h.2.2⟩, fun h2 => by rw [bcI_small hq] at h2; cases h2⟩
end ALL
