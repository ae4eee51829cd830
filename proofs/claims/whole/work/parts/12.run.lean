/-! A RUN, and the search for the fewest pumps as the class does it: functions. -/
def afterP (G : Nat → Int32) (b : Bool) (p : Int32) : Int32 := if b = true then (if p < G 3 then G 3 else p) else p
/-- how a run fails that comes to NODE i with p; 0 -/
def fAt (F G : Nat → Int32) (n : Nat) (b : Bool) (i : Nat) (p q : Int32) : Int32 := if b = true ∧ p < G 4 then 2 else if i < n then failF F i (afterP G b p) q else if afterP G b p < G 2 then 5 else 0
def bAt (G : Nat → Int32) (b : Bool) (i : Nat) (p : Int32) (B : Nat → Int32) : Nat → Int32 := if b = true ∧ p < G 4 then B else upd B i (afterP G b p)
abbrev Rs : Type := Int32 × Int32 × (Nat → Int32) × (Nat → Int32)
/-- where, how, what comes in, what is behind -/
def rn (F G : Nat → Int32) (n : Nat) (q : Int32) (S : Nat) : Nat → Nat → Int32 → (Nat → Int32) → (Nat → Int32) → Rs
  | 0, _, _, a, b => (-1000001, 0, a, b)
  | k + 1, i, p, a, b => if fAt F G n (S.testBit i) i p q = 0 then rn F G n q S k (i + 1) (afterP G (S.testBit i) p - lossF F i q) (upd a i p) (bAt G (S.testBit i) i p b) else (nI i, fAt F G n (S.testBit i) i p q, upd a i p, bAt G (S.testBit i) i p b)
def runF (F G : Nat → Int32) (n : Nat) (q : Int32) (S : Nat) : Rs := rn F G n q S (n + 1) 0 (G 1) (fun _ => -1000001) (fun _ => -1000001)
/-- the loop's invariant -/
def runI (F G : Nat → Int32) (n : Nat) (q : Int32) (S : Nat) (FIN : Rs) (i : Nat) (p wh how : Int32) (a b : Nat → Int32) : Prop := (how = 0 ∧ wh = -1000001 ∧ rn F G n q S (n + 1 - i) i p a b = FIN) ∨ (¬ how = 0 ∧ (wh, how, a, b) = FIN)
section RUN
variable {F G : Nat → Int32} {n : Nat} {q : Int32} {S : Nat} {FIN : Rs} {i : Nat} {p p' wh how : Int32} {a b : Nat → Int32}
theorem runI.go (h : runI F G n q S FIN i p wh how a b) (h0 : how = 0) : wh = -1000001 ∧ rn F G n q S (n + 1 - i) i p a b = FIN := by
  rcases h with ⟨-, h1, h2⟩ | ⟨h1, -⟩
  · exact ⟨h1, h2⟩
  · exact absurd h0 h1
theorem runI.stop (h : runI F G n q S FIN i p wh how a b) (h0 : ¬ how = 0) : (wh, how, a, b) = FIN := by
  rcases h with ⟨h1, -⟩ | ⟨-, h1⟩
  · exact absurd h1 h0
  · exact h1
theorem runI.out (h : runI F G n q S FIN i p wh how a b) (hi : n < i) : (wh, how, a, b) = FIN := by
  rcases h with ⟨h1, h2, h3⟩ | ⟨-, h1⟩
  · rw [show n + 1 - i = 0 by omega] at h3
    rw [← h3, h1, h2]
    rfl
  · exact h1
theorem rn_s (hi : i ≤ n) : rn F G n q S (n + 1 - i) i p a b = if fAt F G n (S.testBit i) i p q = 0 then rn F G n q S (n + 1 - (i + 1)) (i + 1) (afterP G (S.testBit i) p - lossF F i q) (upd a i p) (bAt G (S.testBit i) i p b) else (nI i, fAt F G n (S.testBit i) i p q, upd a i p, bAt G (S.testBit i) i p b) := by
  rw [show n + 1 - i = (n + 1 - (i + 1)) + 1 by omega]
  rfl
theorem runI.fail (hr : rn F G n q S (n + 1 - i) i p a b = FIN) (hi : i ≤ n) (h : ¬ fAt F G n (S.testBit i) i p q = 0) : runI F G n q S FIN (i + 1) p' (nI i) (fAt F G n (S.testBit i) i p q) (upd a i p) (bAt G (S.testBit i) i p b) := by
  rw [rn_s hi, if_neg h] at hr
  exact Or.inr ⟨h, hr⟩
theorem runI.next (hr : rn F G n q S (n + 1 - i) i p a b = FIN) (hw : wh = -1000001) (hi : i ≤ n) (h : fAt F G n (S.testBit i) i p q = 0) (hp : i < n → p' = afterP G (S.testBit i) p - lossF F i q) : runI F G n q S FIN (i + 1) p' wh (fAt F G n (S.testBit i) i p q) (upd a i p) (bAt G (S.testBit i) i p b) := by
  rw [rn_s hi, if_pos h] at hr
  refine Or.inl ⟨h, hw, ?_⟩
  rcases Nat.lt_or_ge i n with hl | hl
  · rw [hp hl]; exact hr
  · rw [show n + 1 - (i + 1) = 0 by omega] at hr ⊢
    exact hr
theorem runI.start : runI F G n q S (runF F G n q S) 0 (G 1) (-1000001) 0 (fun _ => -1000001) (fun _ => -1000001) := Or.inl ⟨rfl, rfl, rfl⟩
theorem bAt_get (h : fAt F G n (S.testBit i) i p q = 0) : bAt G (S.testBit i) i p b i = afterP G (S.testBit i) p := by
  unfold bAt
  by_cases c : S.testBit i = true ∧ p < G 4
  · unfold fAt at h; rw [if_pos c] at h; exact absurd h (by decide)
  · rw [if_neg c, pk_us]
theorem fAt_2 {t : Bool} (h1 : t = true) (h2 : p < G 4) : fAt F G n t i p q = 2 := if_pos ⟨h1, h2⟩
theorem bAt_2 {t : Bool} (h1 : t = true) (h2 : p < G 4) : bAt G t i p b = b := if_pos ⟨h1, h2⟩
theorem no2 {t : Bool} (h : t = false ∨ ¬ p < G 4) : ¬ (t = true ∧ p < G 4) := fun ⟨h1, h2⟩ => h.elim (fun c => by rw [c] at h1; cases h1) (fun c => c h2)
theorem bAt_p {t : Bool} (h : t = false ∨ ¬ p < G 4) : bAt G t i p b = upd b i (afterP G t p) := if_neg (no2 h)
theorem fAt_s {t : Bool} (h : t = false ∨ ¬ p < G 4) (hi : i < n) : fAt F G n t i p q = failF F i (afterP G t p) q := by
  unfold fAt; rw [if_neg (no2 h), if_pos hi]
theorem fAt_5 {t : Bool} (h : t = false ∨ ¬ p < G 4) (hi : ¬ i < n) (h2 : afterP G t p < G 2) : fAt F G n t i p q = 5 := by
  unfold fAt; rw [if_neg (no2 h), if_neg hi, if_pos h2]
theorem fAt_0 {t : Bool} (h : t = false ∨ ¬ p < G 4) (hi : ¬ i < n) (h2 : ¬ afterP G t p < G 2) : fAt F G n t i p q = 0 := by
  unfold fAt; rw [if_neg (no2 h), if_neg hi, if_neg h2]
theorem afterP_f : afterP G false p = p := rfl
theorem afterP_t : afterP G true p = if p < G 3 then G 3 else p := rfl
end RUN
/-- the first k places told anew -/
def fillF (f : Nat → Int32) (v : Int32) (k : Nat) : Nat → Int32 := fun j => if j < k then v else f j
theorem fillF_0 (f : Nat → Int32) (v : Int32) : f = fillF f v 0 := by funext j; simp [fillF]
theorem fillF_s (f : Nat → Int32) (v : Int32) (k : Nat) : upd (fillF f v k) k v = fillF f v (k + 1) := by
  funext j
  by_cases h : j = k
  · subst h; rw [pk_us]; simp [fillF]
  · rw [pk_un h]; unfold fillF
    by_cases h2 : j < k
    · rw [if_pos h2, if_pos (by omega)]
    · rw [if_neg h2, if_neg (by omega)]
/-- the lesser one -/
def mn (x y : Int32) : Int32 := if y < x then y else x
def ldB (G : Nat → Int32) (i : Nat) (set p : Int32) (B : Nat → Int32) : Nat → Int32 := if ¬ p < G 4 ∧ p < G 3 then upd B i (mn (B i) (set + 2048 + bitOf (nI i))) else B
def lead (F G : Nat → Int32) (n : Nat) (q set : Int32) : Nat → Nat → Int32 → (Nat → Int32) → Nat → Int32
  | 0, _, p, B => if p < G 2 then B else upd B n (mn (B n) set)
  | k + 1, i, p, B => if failF F i p q = 0 then lead F G n q set k (i + 1) (p - lossF F i q) (ldB G i set p B) else ldB G i set p B
def bsIter (F G : Nat → Int32) (n : Nat) (q : Int32) : Nat → Nat → Int32
  | 0 => lead F G n q 0 n 0 (G 1) (fun _ => 1073741824)
  | i + 1 => if bsIter F G n q i i = 1073741824 then bsIter F G n q i else lead F G n q (bsIter F G n q i i) (n - i) i (G 3) (bsIter F G n q i)
def bestF (F G : Nat → Int32) (n : Nat) (q : Int32) : Int32 := bsIter F G n q n n
section LEAD
variable {F G : Nat → Int32} {n : Nat} {q set : Int32} {i : Nat} {p : Int32} {B FIN : Nat → Int32}
theorem ldB_1 (h : p < G 4) : B = ldB G i set p B := by unfold ldB; rw [if_neg (fun h1 => h1.1 h)]
theorem ldB_2 (h : ¬ p < G 3) : B = ldB G i set p B := by unfold ldB; rw [if_neg (fun h1 => h h1.2)]
theorem ldB_3 (h1 : ¬ p < G 4) (h2 : p < G 3) : upd B i (mn (B i) (set + 2048 + bitOf (nI i))) = ldB G i set p B := by unfold ldB; rw [if_pos ⟨h1, h2⟩]
theorem lead_s (hi : i < n) : lead F G n q set (n - i) i p B = if failF F i p q = 0 then lead F G n q set (n - (i + 1)) (i + 1) (p - lossF F i q) (ldB G i set p B) else ldB G i set p B := by
  rw [show n - i = (n - (i + 1)) + 1 by omega]
  rfl
theorem lead_f (hr : lead F G n q set (n - i) i p B = FIN) (hi : i < n) (h : ¬ failF F i p q = 0) : ldB G i set p B = FIN := by rw [lead_s hi, if_neg h] at hr; exact hr
theorem lead_g (hr : lead F G n q set (n - i) i p B = FIN) (hi : i < n) (h : failF F i p q = 0) : lead F G n q set (n - (i + 1)) (i + 1) (p - lossF F i q) (ldB G i set p B) = FIN := by rw [lead_s hi, if_pos h] at hr; exact hr
theorem lead_e1 (hr : lead F G n q set (n - i) i p B = FIN) (hi : i = n) (h : p < G 2) : B = FIN := by
  subst hi; rw [Nat.sub_self] at hr; rw [← hr]; exact (if_pos h).symm
theorem lead_e2 (hr : lead F G n q set (n - i) i p B = FIN) (hi : i = n) (h : ¬ p < G 2) : upd B n (mn (B n) set) = FIN := by
  subst hi; rw [Nat.sub_self] at hr; rw [← hr]; exact (if_neg h).symm
theorem bs_1 (h : bsIter F G n q i i = 1073741824) : bsIter F G n q i = bsIter F G n q (i + 1) := (if_pos h).symm
theorem bs_2 (h : ¬ bsIter F G n q i i = 1073741824) : lead F G n q (bsIter F G n q i i) (n - i) i (G 3) (bsIter F G n q i) = bsIter F G n q (i + 1) := (if_neg h).symm
end LEAD
