/-! THE REFERENCE'S STATE: a line lies in one row. -/
def rowL (L : Ln) : Nat → Int32 := fun j => if j = 0 then nI L.1 else if j = 1 then L.2.1 else if j < 8 then L.2.2.2 (j - 2) else L.2.2.1 (j - 8)
section ROW
variable {n m : Nat} {P x : Int32} {F G : Nat → Int32}
theorem row_g {k : Nat} (hk : k < 6) : rowL (n, P, F, G) (2 + k) = G k := by
  unfold rowL
  rw [if_neg (by omega), if_neg (by omega), if_pos (by omega)]
  show G (2 + k - 2) = G k
  congr 1; omega
theorem row_f (i w : Nat) : rowL (n, P, F, G) (8 + 5 * i + w) = F (i * 5 + w) := by
  unfold rowL
  rw [if_neg (by omega), if_neg (by omega), if_neg (by omega)]
  show F (8 + 5 * i + w - 8) = F (i * 5 + w)
  congr 1; omega
theorem row_u0 : upd (rowL (n, P, F, G)) 0 (nI m) = rowL (m, P, F, G) := by
  funext j
  by_cases h : j = 0
  · subst h; rw [pk_us]; rfl
  · rw [pk_un h]; unfold rowL; rw [if_neg h, if_neg h]
theorem row_u1 : upd (rowL (n, P, F, G)) 1 x = rowL (n, x, F, G) := by
  funext j
  by_cases h : j = 1
  · subst h; rw [pk_us]; rfl
  · rw [pk_un h]; unfold rowL
    by_cases h0 : j = 0
    · rw [if_pos h0, if_pos h0]
    · rw [if_neg h0, if_neg h0, if_neg h, if_neg h]
theorem row_ug {k : Nat} (hk : k < 6) : upd (rowL (n, P, F, G)) (2 + k) x = rowL (n, P, F, upd G k x) := by
  funext j
  by_cases h : j = 2 + k
  · subst h; rw [pk_us, row_g hk, pk_us]
  · rw [pk_un h]; unfold rowL
    by_cases h0 : j = 0
    · rw [if_pos h0, if_pos h0]
    · by_cases h1 : j = 1
      · rw [if_neg h0, if_neg h0, if_pos h1, if_pos h1]
      · rw [if_neg h0, if_neg h0, if_neg h1, if_neg h1]
        by_cases h2 : j < 8
        · rw [if_pos h2, if_pos h2]
          show G (j - 2) = upd G k x (j - 2)
          rw [pk_un (by omega)]
        · rw [if_neg h2, if_neg h2]
theorem row_uf (i w : Nat) : upd (rowL (n, P, F, G)) (8 + 5 * i + w) x = rowL (n, P, upd F (i * 5 + w) x, G) := by
  funext j
  by_cases h : j = 8 + 5 * i + w
  · subst h; rw [pk_us, row_f, pk_us]
  · rw [pk_un h]; unfold rowL
    by_cases h0 : j = 0
    · rw [if_pos h0, if_pos h0]
    · by_cases h1 : j = 1
      · rw [if_neg h0, if_neg h0, if_pos h1, if_pos h1]
      · by_cases h2 : j < 8
        · rw [if_neg h0, if_neg h0, if_neg h1, if_neg h1, if_pos h2, if_pos h2]
        · rw [if_neg h0, if_neg h0, if_neg h1, if_neg h1, if_neg h2, if_neg h2]
          show F (j - 8) = upd F (i * 5 + w) x (j - 8)
          rw [pk_un (by omega)]
end ROW
/-- bits, as the reference counts them -/
def onesN (p : Nat) : Nat → Nat
  | 0 => 0
  | k + 1 => onesN p k + p / 2 ^ k % 2
theorem onesN_pcn (p : Nat) : onesN p 11 = pcn p := by
  simp only [pcn, onesN, List.range, List.range.loop, List.foldl]
theorem onesN_le (p : Nat) : ∀ k, onesN p k ≤ k
  | 0 => Nat.le_refl 0
  | k + 1 => by have := onesN_le p k; show onesN p k + p / 2 ^ k % 2 ≤ k + 1; omega
theorem shr_all : ∀ i, i < 11 → ((nI i &&& 31).toBitVec.smod 32).toNat = i := by decide +kernel
theorem bit_r {p i : Nat} (hp : p < 2048) (hi : i ≤ 10) : (nI p >>> (nI i &&& 31)) &&& 1 = nI (p / 2 ^ i % 2) := by
  rw [pk_shrN (by omega) (nI i &&& 31) i (shr_all i (by omega))]
  have h : p / 2 ^ i ≤ p := Nat.div_le_self _ _
  exact pk_andN (by omega) 1 (by decide)
theorem bit_r1 {p i : Nat} (h : nI (p / 2 ^ i % 2) = 1) : p.testBit i = true := by
  have h2 : p / 2 ^ i % 2 = 1 := (nI_eq (b := 1) (by omega) (by decide)).mp h
  rw [Nat.testBit_eq_decide_div_mod_eq]
  exact decide_eq_true h2
theorem bit_r0 {p i : Nat} (h : ¬ nI (p / 2 ^ i % 2) = 1) : p.testBit i = false := by
  have h2 : ¬ p / 2 ^ i % 2 = 1 := fun q => h (by rw [q]; rfl)
  rw [Nat.testBit_eq_decide_div_mod_eq]
  exact decide_eq_false h2
def ref3 (a b c : Int32) : Nat → Int32 := fun j => if j = 0 then a else if j = 1 then b else c
theorem isRef_cases {v : Int32} (h : isRef v = true) : v = -1000002 ∨ v = -1000003 ∨ v = -1000004 := by
  unfold isRef at h
  simpa using h
theorem ref3_0 {a b c x : Int32} : upd (ref3 a b c) 0 x = ref3 x b c := by
  funext j
  by_cases h : j = 0
  · subst h; rw [pk_us]; rfl
  · rw [pk_un h]; unfold ref3; rw [if_neg h, if_neg h]
theorem ref3_1 {a b c x : Int32} : upd (ref3 a b c) 1 x = ref3 a x c := by
  funext j
  by_cases h : j = 1
  · subst h; rw [pk_us]; rfl
  · rw [pk_un h]; unfold ref3
    by_cases h0 : j = 0
    · rw [if_pos h0, if_pos h0]
    · rw [if_neg h0, if_neg h0, if_neg h, if_neg h]
theorem e_ref2 {a b c x : Int32} {j : Nat} (hj : j < 3) : upd (ref3 a b c) 2 x j = ref3 a b x j := by
  have : j = 0 ∨ j = 1 ∨ j = 2 := by omega
  rcases this with rfl | rfl | rfl <;> rfl
theorem cpy_0 {f g : Nat → Int32} {i j : Nat} : g = va_cpy f g i j 0 := by
  funext k; unfold va_cpy; rw [if_neg (by omega)]
theorem cpy_s {f g : Nat → Int32} {i j k : Nat} : upd (va_cpy f g i j k) (j + k) (f (i + k)) = va_cpy f g i j (k + 1) := by
  funext x
  by_cases h : x = j + k
  · subst h; rw [pk_us]; unfold va_cpy
    rw [if_pos (by omega)]; congr 1; omega
  · rw [pk_un h]; unfold va_cpy
    by_cases h2 : j ≤ x ∧ x < j + k
    · rw [if_pos h2, if_pos (by omega)]
    · rw [if_neg h2, if_neg (by omega)]
/-- the states kept, oldest first, in the reference's row -/
def pastOk (p : Nat → Int32) (k : Nat) (K : Nat → Ln) : Prop := ∀ i, i < k → ∀ j, j < 58 → p (58 * i + j) = rowL (K i) j
def pushK (K : Nat → Ln) (k : Nat) (L : Ln) : Nat → Ln := if k = 5 then (fun i => if i = 4 then L else K (i + 1)) else (fun i => if i = k then L else K i)
def shf (p : Nat → Int32) (k : Nat) : Nat → Int32 := fun j => if j < k then p (j + 58) else p j
theorem shf_0 {p : Nat → Int32} : p = shf p 0 := by funext j; unfold shf; rw [if_neg (by omega)]
theorem shf_g {p : Nat → Int32} {k : Nat} : shf p k (k + 58) = p (k + 58) := by unfold shf; rw [if_neg (by omega)]
theorem shf_s {p : Nat → Int32} {k : Nat} : upd (shf p k) k (shf p k (k + 58)) = shf p (k + 1) := by
  funext j
  by_cases h : j = k
  · subst h; rw [pk_us, shf_g]; unfold shf; rw [if_pos (by omega)]
  · rw [pk_un h]; unfold shf
    by_cases h2 : j < k
    · rw [if_pos h2, if_pos (by omega)]
    · rw [if_neg h2, if_neg (by omega)]
theorem past_push {p : Nat → Int32} {k : Nat} {K : Nat → Ln} {L : Ln} (hk : k < 5) (h : pastOk p k K) : pastOk (va_cpy (rowL L) p 0 (58 * k) 58) (k + 1) (pushK K k L) := by
  intro i hi j hj
  unfold pushK va_cpy
  rw [if_neg (show ¬ k = 5 by omega)]
  by_cases hik : i = k
  · subst hik
    rw [if_pos (show 58 * i ≤ 58 * i + j ∧ 58 * i + j < 58 * i + 58 from ⟨by omega, by omega⟩), show 0 + (58 * i + j - 58 * i) = j by omega]
    exact congrArg (fun z => rowL z j) (if_pos rfl).symm
  · rw [if_neg (show ¬ (58 * k ≤ 58 * i + j ∧ 58 * i + j < 58 * k + 58) by omega)]
    exact (h i (by omega) j hj).trans (congrArg (fun z => rowL z j) (if_neg hik).symm)
theorem past_push5 {p : Nat → Int32} {K : Nat → Ln} {L : Ln} (h : pastOk p 5 K) : pastOk (va_cpy (rowL L) (shf p 232) 0 (58 * 4) 58) 5 (pushK K 5 L) := by
  intro i hi j hj
  unfold pushK va_cpy
  rw [if_pos (show 5 = 5 from rfl)]
  by_cases hik : i = 4
  · subst hik
    rw [if_pos (show 58 * 4 ≤ 58 * 4 + j ∧ 58 * 4 + j < 58 * 4 + 58 from ⟨by omega, by omega⟩), show 0 + (58 * 4 + j - 58 * 4) = j by omega]
    exact congrArg (fun z => rowL z j) (if_pos rfl).symm
  · rw [if_neg (show ¬ (58 * 4 ≤ 58 * i + j ∧ 58 * i + j < 58 * 4 + 58) by omega)]
    unfold shf
    rw [if_pos (show 58 * i + j < 232 by omega), show 58 * i + j + 58 = 58 * (i + 1) + j by omega]
    exact (h (i + 1) (by omega) j hj).trans (congrArg (fun z => rowL z j) (if_neg hik).symm)
theorem past_back {p g : Nat → Int32} {k : Nat} {K : Nat → Ln} (h : pastOk p (k + 1) K) {j : Nat} (hj : j < 58) : va_cpy p g (58 * k) 0 58 j = rowL (K k) j := by
  unfold va_cpy
  rw [if_pos ⟨Nat.zero_le _, by omega⟩, Nat.sub_zero]
  exact h k (Nat.lt_succ_self k) j hj
theorem past_pop {p : Nat → Int32} {k : Nat} {K : Nat → Ln} (h : pastOk p (k + 1) K) : pastOk p k K := fun i hi j hj => h i (by omega) j hj
/-- tables -/
theorem in4 {s : Int32} (h : vp_in s 4) : s = 0 ∨ s = 1 ∨ s = 2 ∨ s = 3 := by
  obtain ⟨j, hj, rfl⟩ := vp_in_of h (by decide)
  have : j = 0 ∨ j = 1 ∨ j = 2 ∨ j = 3 := by omega
  rcases this with rfl | rfl | rfl | rfl
  · exact Or.inl rfl
  · exact Or.inr (Or.inl rfl)
  · exact Or.inr (Or.inr (Or.inl rfl))
  · exact Or.inr (Or.inr (Or.inr rfl))
theorem in4_3 {s : Int32} (h : vp_in s 4) (h0 : ¬ s = 0) (h1 : ¬ s = 1) (h2 : ¬ s = 2) : s = 3 := by
  rcases in4 h with q | q | q | q
  · exact absurd q h0
  · exact absurd q h1
  · exact absurd q h2
  · exact q
theorem low_no {j : Nat} (hj : j < 6) (h0 : ¬ nI j = 0) (h3 : ¬ nI j = 3) : 0 = kLow j := by
  have : j = 0 ∨ j = 1 ∨ j = 2 ∨ j = 3 ∨ j = 4 ∨ j = 5 := by omega
  rcases this with rfl | rfl | rfl | rfl | rfl | rfl
  · exact absurd rfl h0
  · rfl
  · rfl
  · exact absurd rfl h3
  · rfl
  · rfl
theorem low_0 {j : Nat} (hj : j < 6) (h : nI j = 0) : 1 = kLow j := by rw [(nI_eq (b := 0) (by omega) (by decide)).mp h]; rfl
theorem low_3 {j : Nat} (hj : j < 6) (h : nI j = 3) : 20 = kLow j := by rw [(nI_eq (b := 3) (by omega) (by decide)).mp h]; rfl
theorem high_0 {j : Nat} (hj : j < 6) (h : nI j = 0) : 30 = kHigh j := by rw [(nI_eq (b := 0) (by omega) (by decide)).mp h]; rfl
theorem high_3 {j : Nat} (hj : j < 6) (h : nI j = 3) : 180 = kHigh j := by rw [(nI_eq (b := 3) (by omega) (by decide)).mp h]; rfl
theorem high_4 {j : Nat} (hj : j < 6) (h : nI j = 4) : 20 = kHigh j := by rw [(nI_eq (b := 4) (by omega) (by decide)).mp h]; rfl
theorem high_5 {j : Nat} (hj : j < 6) (h : nI j = 5) : 99 = kHigh j := by rw [(nI_eq (b := 5) (by omega) (by decide)).mp h]; rfl
theorem high_no {j : Nat} (hj : j < 6) (h0 : ¬ nI j = 0) (h3 : ¬ nI j = 3) (h4 : ¬ nI j = 4) (h5 : ¬ nI j = 5) : 100 = kHigh j := by
  have : j = 0 ∨ j = 1 ∨ j = 2 ∨ j = 3 ∨ j = 4 ∨ j = 5 := by omega
  rcases this with rfl | rfl | rfl | rfl | rfl | rfl
  · exact absurd rfl h0
  · rfl
  · rfl
  · exact absurd rfl h3
  · exact absurd rfl h4
  · exact absurd rfl h5
/-- a run's end where a span fails -/
def onF (k : Int32) (x y : Int32) : Int32 := if k = 0 then x else y
def goV (F : Nat → Int32) (i : Nat) (p q : Int32) : Int32 := if failF F i p q = 1 ∨ failF F i p q = 4 then p else p - lossF F i q
section GO
variable {F : Nat → Int32} {i : Nat} {p q x y : Int32}
theorem fail_1 (h : F (i * 5 + 4) = 1) : failF F i p q = 1 := if_pos h
theorem fail_4 (h : ¬ F (i * 5 + 4) = 1) (h2 : kStands (pl (F (i * 5 + 1))) < p) : failF F i p q = 4 := by unfold failF; rw [if_neg h, if_pos h2]
theorem fail_3 (h : ¬ F (i * 5 + 4) = 1) (h2 : ¬ kStands (pl (F (i * 5 + 1))) < p) (h3 : p - lossF F i q < 0) : failF F i p q = 3 := by unfold failF; rw [if_neg h, if_neg h2, if_pos h3]
theorem fail_0 (h : ¬ F (i * 5 + 4) = 1) (h2 : ¬ kStands (pl (F (i * 5 + 1))) < p) (h3 : ¬ p - lossF F i q < 0) : failF F i p q = 0 := by unfold failF; rw [if_neg h, if_neg h2, if_neg h3]
theorem onF_0 {k : Int32} (h : k = 0) : x = onF k x y := (if_pos h).symm
theorem onF_n {k : Int32} (h : ¬ k = 0) : y = onF k x y := (if_neg h).symm
theorem onF_k {k z : Int32} (h : k = z) (hz : ¬ z = 0) : z = onF k x k := by rw [h]; exact (if_neg hz).symm
theorem goV_1 (h : failF F i p q = 1) : p = goV F i p q := (if_pos (Or.inl h)).symm
theorem goV_4 (h : failF F i p q = 4) : p = goV F i p q := (if_pos (Or.inr h)).symm
theorem goV_3 (h : failF F i p q = 3) : p - lossF F i q = goV F i p q := (if_neg (by rw [h]; decide)).symm
theorem goV_0 (h : failF F i p q = 0) : p - lossF F i q = goV F i p q := (if_neg (by rw [h]; decide)).symm
end GO
