/-! WHAT THE SYSTEM DOES, as functions: a line is (spans, pumps, facts, settings). -/
abbrev Ln : Type := Nat × Int32 × (Nat → Int32) × (Nat → Int32)
abbrev cBAD : Int32 := -1000002
abbrev cNO : Int32 := -1000003
abbrev cFULL : Int32 := -1000004
abbrev cNONE : Int32 := -1000001
/-- place of a number that is known not to be below 0 -/
abbrev pl (x : Int32) : Nat := x.toNatClampNeg
def hosesF (F : Nat → Int32) (i : Nat) : Int32 := if F (i * 5 + 3) = 1 then 2 * F (i * 5 + 0) else F (i * 5 + 0)
def flowF (F : Nat → Int32) (i : Nat) (q : Int32) : Int32 := if F (i * 5 + 3) = 1 then (q + 1) / 2 else q
def lossF (F : Nat → Int32) (i : Nat) (q : Int32) : Int32 := F (i * 5 + 0) * kHard (pl (F (i * 5 + 1))) * flowF F i q * flowF F i q / 100 + F (i * 5 + 2)
/-- how a run fails that comes with p to the beginning of a span; 0 -/
def failF (F : Nat → Int32) (i : Nat) (p q : Int32) : Int32 := if F (i * 5 + 4) = 1 then 1 else if kStands (pl (F (i * 5 + 1))) < p then 4 else if p - lossF F i q < 0 then 3 else 0
def okSpan (m s r t : Int32) : Bool := inR m 1 30 && (inR s 0 3 && (inR r (-50) 50 && inR t 0 1))
def setSp (F : Nat → Int32) (n : Nat) (m s r t : Int32) : Nat → Int32 := upd (upd (upd (upd (upd F (n * 5 + 0) m) (n * 5 + 1) s) (n * 5 + 2) r) (n * 5 + 3) t) (n * 5 + 4) 0
def bitOf (i : Int32) : Int32 := 1 <<< (i &&& 31)
/-- how many of the bits 0 to 10 -/
def pcn (p : Nat) : Nat := (List.range 11).foldl (fun a k => a + p / 2 ^ k % 2) 0
def bcI (P : Int32) : Int32 := nI (pcn (pl P))
def sSpan (L : Ln) (m s r t : Int32) : Int32 × Ln := if okSpan m s r t = true then (if L.1 < 10 then (nI L.1, (L.1 + 1, L.2.1, setSp L.2.2.1 L.1 m s r t, L.2.2.2)) else (cFULL, L)) else (cBAD, L)
def sCut (L : Ln) : Int32 × Ln := if L.1 = 0 then (cNO, L) else (nI (L.1 - 1), (L.1 - 1, L.2.1 &&& (bitOf (nI L.1) ^^^ (-1)), L.2.2.1, L.2.2.2))
def okSet (k v : Int32) : Bool := inR k 0 5 && inR v (kLow (pl k)) (kHigh (pl k))
def sSet (L : Ln) (k v : Int32) : Int32 × Ln := if okSet k v = true then (L.2.2.2 (pl k), (L.1, L.2.1, L.2.2.1, upd L.2.2.2 (pl k) v)) else (cBAD, L)
def sPump (L : Ln) (i : Int32) : Int32 × Ln := if inR i 0 (nI L.1) = true then (bcI (L.2.1 ^^^ bitOf i), (L.1, L.2.1 ^^^ bitOf i, L.2.2.1, L.2.2.2)) else (cBAD, L)
def sBurst (L : Ln) (i : Int32) : Int32 × Ln := if inR i 0 (nI L.1 - 1) = true then (1 - L.2.2.1 (pl i * 5 + 4), (L.1, L.2.1, upd L.2.2.1 (pl i * 5 + 4) 1, L.2.2.2)) else (cBAD, L)
def noMend (L : Ln) (i : Int32) : Bool := decide (L.2.2.1 (pl i * 5 + 4) = 0) || decide (L.2.2.2 5 < hosesF L.2.2.1 (pl i))
def sMend (L : Ln) (i : Int32) : Int32 × Ln := if inR i 0 (nI L.1 - 1) = true then (if noMend L i = true then (cNO, L) else (L.2.2.2 5 - hosesF L.2.2.1 (pl i), (L.1, L.2.1, upd L.2.2.1 (pl i * 5 + 4) 0, upd L.2.2.2 5 (L.2.2.2 5 - hosesF L.2.2.1 (pl i))))) else (cBAD, L)
/-- a line as it ever is -/
def okFacts (F : Nat → Int32) : Prop := ∀ i, i < 10 → (0 ≤ F (i * 5 + 0) ∧ F (i * 5 + 0) ≤ 30) ∧ (0 ≤ F (i * 5 + 1) ∧ F (i * 5 + 1) ≤ 3) ∧ (F (i * 5 + 4) = 0 ∨ F (i * 5 + 4) = 1)
def okSets (G : Nat → Int32) : Prop := ∀ k, k < 6 → kLow k ≤ G k ∧ G k ≤ kHigh k
def okPumps (P : Int32) : Prop := ∃ p, p < 2048 ∧ P = nI p
def okLn (L : Ln) : Prop := L.1 ≤ 10 ∧ okPumps L.2.1 ∧ okFacts L.2.2.1 ∧ okSets L.2.2.2
theorem okFacts.sort {F : Nat → Int32} (h : okFacts F) {i : Nat} (hi : i < 10) : vp_in (F (i * 5 + 1)) 4 := by
  obtain ⟨-, ⟨h1, h2⟩, -⟩ := h i hi
  obtain ⟨j, hj, e⟩ := nI_of2 (M := 3) (n := 3) (by decide) (Int32.not_lt.mpr h1) h2
  rw [e]; exact vp_in_nI (by omega) (by decide)
theorem clamp_in {x : Int32} {n : Nat} (hn : n < 2 ^ 31) (h : vp_in x n) : ∃ j, j < n ∧ x = nI j ∧ pl x = j := by
  obtain ⟨j, hj, e⟩ := vp_in_of h hn
  exact ⟨j, hj, e, by rw [e]; exact nI_clamp (by omega)⟩
/-- a number that names a span: from 0 to n - 1 -/
theorem span_in {x : Int32} {n : Nat} (hn : n ≤ 10) (h : inR x 0 (nI n - 1) = true) : ∃ j, j < n ∧ x = nI j := by
  obtain ⟨h1, h2⟩ := inR_t.mp h
  cases n with
  | zero => exact absurd (Int32.le_trans h1 h2) (by decide)
  | succ n =>
    rw [show nI (n + 1) - 1 = nI n from nI_pred n] at h2
    obtain ⟨j, hj, e⟩ := nI_of2 (M := nI n) (n := n) (nI_toInt (by omega)) (Int32.not_lt.mpr h1) h2
    exact ⟨j, by omega, e⟩
theorem node_in {x : Int32} {n : Nat} (hn : n ≤ 10) (h : inR x 0 (nI n) = true) : ∃ j, j ≤ n ∧ x = nI j :=
  inR_nI (nI_toInt (by omega)) h
theorem bI_t {b : Bool} (h : b = true) : (1 : Int32) = bI b := by rw [h]; rfl
theorem bI_f {b : Bool} (h : b = false) : (0 : Int32) = bI b := by rw [h]; rfl
theorem pcn_lt : ∀ p, p < 2048 → pcn p ≤ 11 := by
  intro p _
  have h : ∀ k, p / 2 ^ k % 2 ≤ 1 := fun k => by omega
  have h0 := h 0; have h1 := h 1; have h2 := h 2; have h3 := h 3; have h4 := h 4; have h5 := h 5; have h6 := h 6; have h7 := h 7; have h8 := h 8; have h9 := h 9; have h10 := h 10
  simp only [pcn, List.range, List.range.loop, List.foldl]
  omega
theorem pl_nI {j : Nat} (h : j < 2147483648) : pl (nI j) = j := nI_clamp h
section LNS
variable {n : Nat} {P : Int32} {F G : Nat → Int32} {m s r t i k v : Int32}
theorem sSpan_f1 (h : inR m 1 30 = false) : sSpan (n, P, F, G) m s r t = (cBAD, (n, P, F, G)) := by simp [sSpan, okSpan, h]
theorem sSpan_f2 (h : inR s 0 3 = false) : sSpan (n, P, F, G) m s r t = (cBAD, (n, P, F, G)) := by simp [sSpan, okSpan, h]
theorem sSpan_f3 (h : inR r (-50) 50 = false) : sSpan (n, P, F, G) m s r t = (cBAD, (n, P, F, G)) := by simp [sSpan, okSpan, h]
theorem sSpan_f4 (h : inR t 0 1 = false) : sSpan (n, P, F, G) m s r t = (cBAD, (n, P, F, G)) := by simp [sSpan, okSpan, h]
theorem sSpan_full (h1 : inR m 1 30 = true) (h2 : inR s 0 3 = true) (h3 : inR r (-50) 50 = true) (h4 : inR t 0 1 = true) (hn : ¬ n < 10) : sSpan (n, P, F, G) m s r t = (cFULL, (n, P, F, G)) := by simp [sSpan, okSpan, h1, h2, h3, h4, hn]
theorem sSpan_ok (h1 : inR m 1 30 = true) (h2 : inR s 0 3 = true) (h3 : inR r (-50) 50 = true) (h4 : inR t 0 1 = true) (hn : n < 10) : sSpan (n, P, F, G) m s r t = (nI n, (n + 1, P, setSp F n m s r t, G)) := by simp [sSpan, okSpan, h1, h2, h3, h4, hn]
theorem sCut_0 (h : n = 0) : sCut (n, P, F, G) = (cNO, (n, P, F, G)) := by simp [sCut, h]
theorem sCut_s (h : ¬ n = 0) : sCut (n, P, F, G) = (nI (n - 1), (n - 1, P &&& (bitOf (nI n) ^^^ (-1)), F, G)) := by simp [sCut, h]
theorem sSet_f1 (h : inR k 0 5 = false) : sSet (n, P, F, G) k v = (cBAD, (n, P, F, G)) := by simp [sSet, okSet, h]
theorem sSet_f2 {j : Nat} (hj : j < 6) (h : inR v (kLow j) (kHigh j) = false) : sSet (n, P, F, G) (nI j) v = (cBAD, (n, P, F, G)) := by simp [sSet, okSet, pl_nI (show j < 2147483648 by omega), h]
theorem sSet_ok {j : Nat} (hj : j < 6) (h1 : inR (nI j) 0 5 = true) (h : inR v (kLow j) (kHigh j) = true) : sSet (n, P, F, G) (nI j) v = (G j, (n, P, F, upd G j v)) := by simp [sSet, okSet, pl_nI (show j < 2147483648 by omega), h, h1]
theorem sPump_f (h : inR i 0 (nI n) = false) : sPump (n, P, F, G) i = (cBAD, (n, P, F, G)) := by simp [sPump, h]
theorem sPump_ok (h : inR i 0 (nI n) = true) : sPump (n, P, F, G) i = (bcI (P ^^^ bitOf i), (n, P ^^^ bitOf i, F, G)) := by simp [sPump, h]
theorem sBurst_f (h : inR i 0 (nI n - 1) = false) : sBurst (n, P, F, G) i = (cBAD, (n, P, F, G)) := by simp [sBurst, h]
theorem sBurst_ok {j : Nat} (hj : j < 10) (h : inR (nI j) 0 (nI n - 1) = true) : sBurst (n, P, F, G) (nI j) = (1 - F (j * 5 + 4), (n, P, upd F (j * 5 + 4) 1, G)) := by simp [sBurst, h, pl_nI (show j < 2147483648 by omega)]
theorem sMend_f (h : inR i 0 (nI n - 1) = false) : sMend (n, P, F, G) i = (cBAD, (n, P, F, G)) := by simp [sMend, h]
theorem sMend_n1 {j : Nat} (hj : j < 10) (h : inR (nI j) 0 (nI n - 1) = true) (h1 : F (j * 5 + 4) = 0) : sMend (n, P, F, G) (nI j) = (cNO, (n, P, F, G)) := by simp [sMend, noMend, h, pl_nI (show j < 2147483648 by omega), h1]
theorem sMend_n2 {j : Nat} (hj : j < 10) (h : inR (nI j) 0 (nI n - 1) = true) (h1 : G 5 < hosesF F j) : sMend (n, P, F, G) (nI j) = (cNO, (n, P, F, G)) := by simp [sMend, noMend, h, pl_nI (show j < 2147483648 by omega), h1]
theorem sMend_ok {j : Nat} (hj : j < 10) (h : inR (nI j) 0 (nI n - 1) = true) (h1 : ¬ F (j * 5 + 4) = 0) (h2 : ¬ G 5 < hosesF F j) : sMend (n, P, F, G) (nI j) = (G 5 - hosesF F j, (n, P, upd F (j * 5 + 4) 0, upd G 5 (G 5 - hosesF F j))) := by simp only [sMend, noMend, h, pl_nI (show j < 2147483648 by omega), h1, h2, decide_false, Bool.or_self, if_true, Bool.false_eq_true, if_false]
end LNS
theorem set_in {k : Int32} (h : inR k 0 5 = true) : ∃ j, j < 6 ∧ k = nI j := by
  obtain ⟨j, hj, e⟩ := inR_nI (n := 5) (by decide) h
  exact ⟨j, by omega, e⟩
/-- the lengths of all -/
def sumH (F : Nat → Int32) : Nat → Int32
  | 0 => 0
  | k + 1 => sumH F k + hosesF F k
def sumB (F : Nat → Int32) : Nat → Int32
  | 0 => 0
  | k + 1 => sumB F k + F (k * 5 + 4)
/-- bits of the pumps -/
theorem bit_sh : ∀ i, i < 11 → bitOf (nI i) = nI (2 ^ i) := by decide +kernel
theorem bit_0 {p i : Nat} (hi : i ≤ 10) : (nI p &&& (1 <<< (nI i &&& 31))) = 0 ↔ p.testBit i = false := by
  rw [show (1 : Int32) <<< (nI i &&& 31) = nI (2 ^ i) from bit_sh i (by omega)]
  exact fa_bit (by omega)
theorem upd_hosesF {F : Nat → Int32} {j i : Nat} {v : Int32} : hosesF (upd F (j * 5 + 4) v) i = hosesF F i := by
  unfold hosesF
  rw [pk_un (show i * 5 + 3 ≠ j * 5 + 4 by omega), pk_un (show i * 5 + 0 ≠ j * 5 + 4 by omega)]
theorem fa_xor (a b : Nat) : nI a ^^^ nI b = nI (a ^^^ b) := by
  apply Int32.toBitVec_inj.1
  show BitVec.ofNat 32 a ^^^ BitVec.ofNat 32 b = BitVec.ofNat 32 (a ^^^ b)
  apply BitVec.eq_of_getLsbD_eq
  intro i hi
  simp [hi]
theorem okPumps.xor {P : Int32} (h : okPumps P) {i : Nat} (hi : i ≤ 10) : okPumps (P ^^^ bitOf (nI i)) := by
  obtain ⟨p, hp, rfl⟩ := h
  rw [bit_sh i (by omega), show nI p ^^^ nI (2 ^ i) = nI (p ^^^ 2 ^ i) from fa_xor p (2 ^ i)]
  exact ⟨_, Nat.xor_lt_two_pow (n := 11) hp (Nat.lt_of_le_of_lt (Nat.pow_le_pow_right (by decide) hi) (by decide)), rfl⟩
theorem okPumps.and {P : Int32} (h : okPumps P) (y : Int32) : okPumps (P &&& y) := by
  obtain ⟨p, hp, rfl⟩ := h
  obtain ⟨q, -, rfl⟩ : ∃ q, q < 2 ^ 32 ∧ y = nI q := ⟨y.toBitVec.toNat, y.toBitVec.isLt, by
    apply Int32.toBitVec_inj.mp
    show y.toBitVec = BitVec.ofNat 32 y.toBitVec.toNat
    simp⟩
  rw [fa_and]
  exact ⟨p &&& q, Nat.lt_of_le_of_lt Nat.and_le_left hp, rfl⟩
theorem e_cell {cA : ClassId} {n : Nat} {f g : Nat → Int32} (h : ∀ j, j < n → f j = g j) : vp_cell cA (n, .inl f) = vp_cell cA (n, .inl g) := by
  rw [vp_cell_i, vp_cell_i]
  unfold arrV
  congr 1
  congr 1
  funext j
  exact congrArg Value.int (h j.1 j.2)
/-- what a row holds, told otherwise where nobody reads -/
theorem e_ext {D : va_G} {cl : List vw_C} {ws : va_W} {H : Heap} {A : Nat → Prop} (q : Nat) {a : Nat} {cA : ClassId} {n : Nat} {f : Nat → Int32} (g : Nat → Int32) (hP : va_P D cl ws H) (hD : va_D A ws) (hq : ws[q]? = some (a, .inl (cA, n, .inl f))) (h : ∀ j, j < n → f j = g j) : va_P D cl (ws.set q (a, .inl (cA, n, .inl g))) H ∧ va_D A (ws.set q (a, .inl (cA, n, .inl g))) := by
  refine ⟨hP.set hD hq ?_ (fun _ _ => rfl), hD.set hq⟩
  have h1 : H[a]? = some (vp_cell cA (n, .inl f)) := hP q _ hq
  show H[a]? = some (vp_cell cA (n, .inl g))
  rw [h1, e_cell h]
theorem cpy_all {f g : Nat → Int32} {n j : Nat} (h : j < n) : va_cpy f g 0 0 n j = f j := by
  unfold va_cpy
  rw [if_pos ⟨Nat.zero_le _, by omega⟩]
  congr 1
  omega
def ush (x y : Int32) : Int32 := (Int32.toUInt32 x >>> (Int32.toUInt32 y &&& Int32.toUInt32 31)).toInt32
def bc1 (x : Int32) : Int32 := x - (ush x 1 &&& 1431655765)
def bc2 (x : Int32) : Int32 := (x &&& 858993459) + (ush x 2 &&& 858993459)
def bc3 (x : Int32) : Int32 := (x + ush x 4) &&& 252645135
def bc4 (x : Int32) : Int32 := x + ush x 8
def bc5 (x : Int32) : Int32 := x + ush x 16
def bcX (x : Int32) : Int32 := bc5 (bc4 (bc3 (bc2 (bc1 x)))) &&& 63
theorem bc_all : (List.range 2048).all (fun p => decide (bcX (nI p) = nI (pcn p))) = true := by decide +kernel
theorem bc_eq {x : Int32} (h : okPumps x) : bcX x = bcI x := by
  obtain ⟨p, hp, rfl⟩ := h
  have h1 := of_decide_eq_true (List.all_eq_true.mp bc_all p (List.mem_range.mpr hp))
  rw [h1, bcI, pl_nI (by omega)]
theorem b_nf {b : Bool} (h : ¬ b = false) : b = true := by cases b <;> simp_all
