/-! WHAT STAYS TRUE of a line, and ORDERS done one behind another. -/
theorem inR_le {v lo hi : Int32} (h : inR v lo hi = true) : lo ≤ v ∧ v ≤ hi := inR_t.mp h
theorem i3 {a b c : Int32} (h1 : a ≤ b) (h2 : b ≤ c) : a ≤ c := Int32.le_trans h1 h2
theorem okSpan_t {m s r t : Int32} (h : okSpan m s r t = true) : inR m 1 30 = true ∧ inR s 0 3 = true ∧ inR r (-50) 50 = true ∧ inR t 0 1 = true := by
  unfold okSpan at h
  simp only [Bool.and_eq_true] at h
  exact h
theorem setSp_at {F : Nat → Int32} {n i : Nat} {m s r t : Int32} (k : Nat) (hk : k < 5) : setSp F n m s r t (i * 5 + k) = if i = n then (if k = 0 then m else if k = 1 then s else if k = 2 then r else if k = 3 then t else 0) else F (i * 5 + k) := by
  unfold setSp
  by_cases hi : i = n
  · subst hi
    rw [if_pos rfl]
    have : k = 0 ∨ k = 1 ∨ k = 2 ∨ k = 3 ∨ k = 4 := by omega
    rcases this with rfl | rfl | rfl | rfl | rfl
    · rw [pk_un (by omega), pk_un (by omega), pk_un (by omega), pk_un (by omega), pk_us]; rfl
    · rw [pk_un (by omega), pk_un (by omega), pk_un (by omega), pk_us]; rfl
    · rw [pk_un (by omega), pk_un (by omega), pk_us]; rfl
    · rw [pk_un (by omega), pk_us]; rfl
    · rw [pk_us]; rfl
  · rw [if_neg hi, pk_un (by omega), pk_un (by omega), pk_un (by omega), pk_un (by omega), pk_un (by omega)]
theorem okFacts.span {F : Nat → Int32} (h : okFacts F) {n : Nat} {m s r t : Int32} (ho : okSpan m s r t = true) : okFacts (setSp F n m s r t) := by
  obtain ⟨h1, h2, -, -⟩ := okSpan_t ho
  intro i hi
  rw [setSp_at 0 (by omega), setSp_at 1 (by omega), setSp_at 4 (by omega)]
  by_cases hin : i = n
  · rw [if_pos hin, if_pos hin, if_pos hin]
    exact ⟨⟨i3 (by decide) (inR_le h1).1, (inR_le h1).2⟩, inR_le h2, Or.inl rfl⟩
  · rw [if_neg hin, if_neg hin, if_neg hin]
    exact h i hi
theorem okFacts.burst {F : Nat → Int32} (h : okFacts F) {j : Nat} {v : Int32} (hv : v = 0 ∨ v = 1) : okFacts (upd F (j * 5 + 4) v) := by
  intro i hi
  obtain ⟨h1, h2, h3⟩ := h i hi
  rw [pk_un (show i * 5 + 0 ≠ j * 5 + 4 by omega), pk_un (show i * 5 + 1 ≠ j * 5 + 4 by omega)]
  refine ⟨h1, h2, ?_⟩
  by_cases hij : i = j
  · rw [hij, pk_us]; exact hv
  · rw [pk_un (by omega)]; exact h3
theorem okSets.set {G : Nat → Int32} (h : okSets G) {j : Nat} {v : Int32} (hv : inR v (kLow j) (kHigh j) = true) : okSets (upd G j v) := by
  intro k hk
  by_cases hkj : k = j
  · rw [hkj, pk_us]; exact inR_le hv
  · rw [pk_un hkj]; exact h k hk
section OK
variable {n : Nat} {P : Int32} {F G : Nat → Int32} {L : Ln} {a b c d i k v : Int32}
theorem sSpan_ok1 (h : okLn L) : okLn (sSpan L a b c d).2 ∧ (isRef (sSpan L a b c d).1 = true → (sSpan L a b c d).2 = L) := by
  unfold sSpan
  by_cases h1 : okSpan a b c d = true
  · by_cases h2 : L.1 < 10
    · rw [if_pos h1, if_pos h2]
      refine ⟨⟨h2, h.2.1, h.2.2.1.span h1, h.2.2.2⟩, fun h3 => ?_⟩
      exfalso
      have : ∀ j, j < 10 → isRef (nI j) = false := by decide
      rw [show isRef (nI L.1) = false from this _ h2] at h3
      cases h3
    · rw [if_pos h1, if_neg h2]; exact ⟨h, fun _ => rfl⟩
  · rw [if_neg h1]; exact ⟨h, fun _ => rfl⟩
theorem nI_noref : ∀ j, j < 181 → isRef (nI j) = false := by decide +kernel
theorem ref_pos {x : Int32} (h1 : 0 ≤ x) (h2 : x ≤ 180) : isRef x = false := by
  obtain ⟨j, hj, rfl⟩ := nI_of2 (M := 180) (n := 180) (by decide) (Int32.not_lt.mpr h1) h2
  exact nI_noref j (by omega)
theorem sCut_ok1 (h : okLn L) : okLn (sCut L).2 ∧ (isRef (sCut L).1 = true → (sCut L).2 = L) := by
  unfold sCut
  by_cases h1 : L.1 = 0
  · rw [if_pos h1]; exact ⟨h, fun _ => rfl⟩
  · rw [if_neg h1]
    refine ⟨⟨?_, h.2.1.and _, h.2.2.1, h.2.2.2⟩, fun h3 => ?_⟩
    · have := h.1; show L.1 - 1 ≤ 10; omega
    · have := h.1
      rw [show isRef (nI (L.1 - 1)) = false from nI_noref _ (by omega)] at h3
      cases h3
theorem lows : ∀ j, j < 6 → 0 ≤ kLow j ∧ kHigh j ≤ 180 := by decide +kernel
theorem okSets.pos {G : Nat → Int32} (h : okSets G) {j : Nat} (hj : j < 6) : 0 ≤ G j ∧ G j ≤ 180 := ⟨i3 (lows j hj).1 (h j hj).1, i3 (h j hj).2 (lows j hj).2⟩
theorem sSet_ok1 (h : okLn L) : okLn (sSet L k v).2 ∧ (isRef (sSet L k v).1 = true → (sSet L k v).2 = L) := by
  unfold sSet
  by_cases h1 : okSet k v = true
  · rw [if_pos h1]
    unfold okSet at h1
    simp only [Bool.and_eq_true] at h1
    obtain ⟨j, hj, rfl⟩ := set_in h1.1
    rw [pl_nI (by omega)] at h1 ⊢
    refine ⟨⟨h.1, h.2.1, h.2.2.1, h.2.2.2.set h1.2⟩, fun h3 => ?_⟩
    have h4 := h.2.2.2.pos hj
    rw [show isRef (L.2.2.2 j) = false from ref_pos h4.1 h4.2] at h3
    cases h3
  · rw [if_neg h1]; exact ⟨h, fun _ => rfl⟩
theorem bcI_small {P : Int32} (h : okPumps P) : isRef (bcI P) = false := by
  obtain ⟨p, hp, rfl⟩ := h
  unfold bcI
  rw [pl_nI (by omega)]
  exact nI_noref _ (by have := pcn_lt p hp; omega)
theorem sPump_ok1 (h : okLn L) : okLn (sPump L i).2 ∧ (isRef (sPump L i).1 = true → (sPump L i).2 = L) := by
  unfold sPump
  by_cases h1 : inR i 0 (nI L.1) = true
  · rw [if_pos h1]
    obtain ⟨j, hj, rfl⟩ := node_in h.1 h1
    have hx : okPumps (L.2.1 ^^^ bitOf (nI j)) := h.2.1.xor (by have := h.1; omega)
    refine ⟨⟨h.1, hx, h.2.2⟩, fun h3 => ?_⟩
    rw [show isRef (bcI (L.2.1 ^^^ bitOf (nI j))) = false from bcI_small hx] at h3
    cases h3
  · rw [if_neg h1]; exact ⟨h, fun _ => rfl⟩
theorem sBurst_ok1 (h : okLn L) : okLn (sBurst L i).2 ∧ (isRef (sBurst L i).1 = true → (sBurst L i).2 = L) := by
  unfold sBurst
  by_cases h1 : inR i 0 (nI L.1 - 1) = true
  · rw [if_pos h1]
    obtain ⟨j, hj, rfl⟩ := span_in h.1 h1
    refine ⟨⟨h.1, h.2.1, h.2.2.1.burst (Or.inr rfl), h.2.2.2⟩, fun h3 => ?_⟩
    rw [pl_nI (by have := h.1; omega)] at h3
    rcases (h.2.2.1 j (by have := h.1; omega)).2.2 with q | q
    · rw [q] at h3; exact absurd (show isRef (1 - 0) = true from h3) (by decide)
    · rw [q] at h3; exact absurd (show isRef (1 - 1) = true from h3) (by decide)
  · rw [if_neg h1]; exact ⟨h, fun _ => rfl⟩
theorem hoses_pos {F : Nat → Int32} (h : okFacts F) {j : Nat} (hj : j < 10) : ∃ z, z ≤ 60 ∧ hosesF F j = nI z := by
  obtain ⟨⟨h1, h2⟩, -, -⟩ := h j hj
  obtain ⟨z, hz, e⟩ := nI_of2 (M := 30) (n := 30) (by decide) (Int32.not_lt.mpr h1) h2
  unfold hosesF
  by_cases c : F (j * 5 + 3) = 1
  · rw [if_pos c, e]; exact ⟨2 * z, by omega, pk_mul 2 z⟩
  · rw [if_neg c, e]; exact ⟨z, by omega, rfl⟩
theorem mend_in {F G : Nat → Int32} (hF : okFacts F) (hG : okSets G) {j : Nat} (hj : j < 10) (h : ¬ G 5 < hosesF F j) : inR (G 5 - hosesF F j) (kLow 5) (kHigh 5) = true := by
  obtain ⟨z, hz, e⟩ := hoses_pos hF hj
  obtain ⟨h1, h2⟩ := hG 5 (by omega)
  obtain ⟨y, hy, e2⟩ := nI_of2 (M := 99) (n := 99) (by decide) (Int32.not_lt.mpr (show (0 : Int32) ≤ G 5 from h1)) (show G 5 ≤ 99 from h2)
  rw [e, e2] at h ⊢
  have hyz : z ≤ y := by
    rcases Nat.lt_or_ge y z with q | q
    · exact absurd ((nI_ltI (by omega) (by omega)).mpr q) h
    · exact q
  rw [pk_sub hyz]
  exact inR_t.mpr ⟨nI_le (a := 0) (by omega) (by omega), nI_le (b := 99) (by omega) (by decide)⟩
theorem sMend_ok1 (h : okLn L) : okLn (sMend L i).2 ∧ (isRef (sMend L i).1 = true → (sMend L i).2 = L) := by
  unfold sMend
  by_cases h1 : inR i 0 (nI L.1 - 1) = true
  · rw [if_pos h1]
    obtain ⟨j, hj, rfl⟩ := span_in h.1 h1
    have hj10 : j < 10 := by have := h.1; omega
    by_cases h2 : noMend L (nI j) = true
    · rw [if_pos h2]; exact ⟨h, fun _ => rfl⟩
    · rw [if_neg h2]
      rw [pl_nI (by omega)]
      have h5 : ¬ L.2.2.2 5 < hosesF L.2.2.1 j := fun q => h2 (by unfold noMend; rw [pl_nI (by omega), decide_eq_true q, Bool.or_true])
      have h6 := mend_in h.2.2.1 h.2.2.2 hj10 h5
      refine ⟨⟨h.1, h.2.1, h.2.2.1.burst (Or.inl rfl), h.2.2.2.set h6⟩, fun h3 => ?_⟩
      have h7 := inR_le h6
      rw [show isRef (L.2.2.2 5 - hosesF L.2.2.1 j) = false from ref_pos h7.1 (i3 h7.2 (by decide))] at h3
      cases h3
  · rw [if_neg h1]; exact ⟨h, fun _ => rfl⟩
end OK
/-- what an ORDER does: its letter, its numbers -/
def sOrd (L : Ln) (c : Int32) (v : Nat → Int32) : Int32 × Ln := if c = 104 then sSpan L (v 0) (v 1) (v 2) (v 3) else if c = 107 then sSet L (v 0) (v 1) else if c = 109 then sMend L (v 0) else if c = 112 then sPump L (v 0) else if c = 120 then sBurst L (v 0) else sCut L
theorem sOrd_ok1 {L : Ln} (h : okLn L) (c : Int32) (v : Nat → Int32) : okLn (sOrd L c v).2 ∧ (isRef (sOrd L c v).1 = true → (sOrd L c v).2 = L) := by
  unfold sOrd
  by_cases h1 : c = 104
  · rw [if_pos h1]; exact sSpan_ok1 h
  · rw [if_neg h1]
    by_cases h2 : c = 107
    · rw [if_pos h2]; exact sSet_ok1 h
    · rw [if_neg h2]
      by_cases h3 : c = 109
      · rw [if_pos h3]; exact sMend_ok1 h
      · rw [if_neg h3]
        by_cases h4 : c = 112
        · rw [if_pos h4]; exact sPump_ok1 h
        · rw [if_neg h4]
          by_cases h5 : c = 120
          · rw [if_pos h5]; exact sBurst_ok1 h
          · rw [if_neg h5]; exact sCut_ok1 h
theorem nW_104 : nW 104 = 4 := by decide
theorem sOrd_congr (L : Ln) {c : Int32} {v v' : Nat → Int32} (h : ∀ k, k < nW c → v k = v' k) : sOrd L c v = sOrd L c v' := by
  unfold sOrd
  by_cases h1 : c = 104
  · subst h1
    rw [if_pos rfl, if_pos rfl, h 0 (by decide), h 1 (by decide), h 2 (by decide), h 3 (by decide)]
  · rw [if_neg h1, if_neg h1]
    by_cases h2 : c = 107
    · subst h2
      rw [if_pos rfl, if_pos rfl, h 0 (by decide), h 1 (by decide)]
    · rw [if_neg h2, if_neg h2]
      by_cases h3 : c = 109
      · subst h3; rw [if_pos rfl, if_pos rfl, h 0 (by decide)]
      · rw [if_neg h3, if_neg h3]
        by_cases h4 : c = 112
        · subst h4; rw [if_pos rfl, if_pos rfl, h 0 (by decide)]
        · rw [if_neg h4, if_neg h4]
          by_cases h5 : c = 120
          · subst h5; rw [if_pos rfl, if_pos rfl, h 0 (by decide)]
          · rw [if_neg h5, if_neg h5]
/-- the ORDER x of the text, done -/
def ordX (T : Nat → Int32) (N : Nat) (U : Ln) (x : Nat) : Int32 × Ln := sOrd U (bh T N (oP T N x)) (oV T N (oP T N x))
def dGo (T : Nat → Int32) (N : Nat) : Nat → Nat → Ln → Bool × Nat × Ln
  | 0, x, U => (true, x, U)
  | k + 1, x, U => if isRef (ordX T N U x).1 = true then (false, x, U) else dGo T N k (x + 1) (ordX T N U x).2
def doR (T : Nat → Int32) (N : Nat) (L : Ln) : Bool × Nat × Ln := dGo T N (txt T N).2.2 0 L
def doOk (T : Nat → Int32) (N : Nat) (L : Ln) : Bool := (txt T N).1 && (doR T N L).1
def doV (T : Nat → Int32) (N : Nat) (L : Ln) : Int32 := if (txt T N).1 = true then (if (doR T N L).1 = true then nI (txt T N).2.2 else -1000 - nI (doR T N L).2.1) else -10 - nI (txt T N).2.1
def doL (T : Nat → Int32) (N : Nat) (L : Ln) : Ln := if doOk T N L = true then (doR T N L).2.2 else L
def onOk {α : Type} (b : Bool) (x y : α) : α := if b = true then x else y
theorem dGo_ok {T : Nat → Int32} {N : Nat} : ∀ (k x : Nat) (U : Ln), okLn U → okLn (dGo T N k x U).2.2
  | 0, _, _, h => h
  | k + 1, x, U, h => by
    unfold dGo
    by_cases c : isRef (ordX T N U x).1 = true
    · rw [if_pos c]; exact h
    · rw [if_neg c]; exact dGo_ok k (x + 1) _ (sOrd_ok1 h _ _).1
theorem dGo_s {T : Nat → Int32} {N x M : Nat} {U : Ln} (hx : x < M) : dGo T N (M - x) x U = if isRef (ordX T N U x).1 = true then (false, x, U) else dGo T N (M - (x + 1)) (x + 1) (ordX T N U x).2 := by
  rw [show M - x = (M - (x + 1)) + 1 by omega]
  rfl
theorem dGo_e {T : Nat → Int32} {N x M : Nat} {U : Ln} (hx : x = M) : dGo T N (M - x) x U = (true, x, U) := by
  rw [hx, Nat.sub_self]; rfl
theorem tx_cnt {T : Nat → Int32} {N : Nat} : ∀ (k o a : Nat), a ≤ N → 2 * o ≤ a → 2 * (tx T N k o a).2.2 ≤ N
  | 0, o, a, h1, h2 => by show 2 * o ≤ N; omega
  | k + 1, o, a, h1, h2 => by
    unfold tx
    by_cases c : a < N
    · rw [if_pos c]
      by_cases c2 : (ordR T N a).1 = true
      · rw [if_pos c2]
        have h3 := ordR_N (T := T) h1
        have h4 := h3.2.2 c2
        have h5 := skB_le (T := T) (N := N) (a := (ordR T N a).2)
        exact tx_cnt k (o + 1) _ (skB_N h3.2.1) (by omega)
      · rw [if_neg c2]; show 2 * o ≤ N; omega
    · rw [if_neg c]; show 2 * o ≤ N; omega
theorem txt_cnt {T : Nat → Int32} {N : Nat} : 2 * (txt T N).2.2 ≤ N := tx_cnt _ _ _ (skB_N (Nat.zero_le N)) (Nat.zero_le _)
theorem inR_k {k m : Nat} (h : k ≤ m) (hm : m < 2147483648) : inR (nI k) 0 (nI m) = true := inR_t.mpr ⟨nI_le (a := 0) (by omega) (by omega), nI_le h hm⟩
theorem inR_sp {i n : Nat} (h : i < n) (hm : n < 2147483648) : inR (nI i) 0 (nI n - 1) = true := by
  cases n with
  | zero => omega
  | succ n => rw [show nI (n + 1) - 1 = nI n from nI_pred n]; exact inR_k (by omega) (by omega)
/-- the digest, step by step -/
def hF (h : Int64) (v : Int32) : Int64 := 31 * h + Int32.toInt64 v
def dT (rb rn rf : Int32) (N sl : Nat) : Nat → Int64
  | 0 => 2920
  | k + 1 => hF (dT rb rn rf N sl k) (toldF rb rn rf N sl (nI k))
def dC (h : Int64) (L : Ln) : Nat → Int64
  | 0 => h
  | k + 1 => hF (dC h L k) (cntF L (nI k))
def dO (h : Int64) (F : Nat → Int32) (i : Nat) : Nat → Int64
  | 0 => h
  | k + 1 => hF (dO h F i k) (F (i * 5 + k))
def dS (h : Int64) (F : Nat → Int32) (q : Int32) : Nat → Int64
  | 0 => h
  | i + 1 => hF (dO (dS h F q i) F i 5) (lossF F i q)
def dN (h : Int64) (F G : Nat → Int32) (n S : Nat) : Nat → Int64
  | 0 => h
  | i + 1 => hF (hF (dN h F G n S i) ((runF F G n (G 0) S).2.2.1 i)) ((runF F G n (G 0) S).2.2.2 i)
def dR (h : Int64) (F G : Nat → Int32) (n S : Nat) : Nat → Int64
  | 0 => h
  | k + 1 => hF (dR h F G n S k) (runA F G n S (nI k))
def dFin (h : Int64) (F G : Nat → Int32) (n S : Nat) : Int64 := hF (hF (hF h (fewF F G n (G 0) 0)) (fewF F G n (G 0) 1)) (mostF F G n S)
def digF (rb rn rf : Int32) (N sl n S : Nat) (F G : Nat → Int32) : Int64 := dFin (dR (dN (dS (dC (dT rb rn rf N sl 5) (n, nI S, F, G) 11) F (G 0) n) F G n S (n + 1)) F G n S 3) F G n S
theorem rB_v {ok : Bool} {v : Int32} (h : ok = true) : rB ok v = v := if_pos h
theorem bR_v {ok : Bool} {x : Int32} (h : ok = true) : bR ok x = x := if_pos h
section DIG
variable {rb rn rf : Int32} {N sl k i n S : Nat} {h : Int64} {L : Ln} {F G : Nat → Int32} {q : Int32}
theorem dT_0 : dT rb rn rf N sl 0 = 2920 := rfl
theorem dT_s : dT rb rn rf N sl (k + 1) = 31 * dT rb rn rf N sl k + Int32.toInt64 (toldF rb rn rf N sl (nI k)) := rfl
theorem dC_0 : dC h L 0 = h := rfl
theorem dC_s : dC h L (k + 1) = 31 * dC h L k + Int32.toInt64 (cntF L (nI k)) := rfl
theorem dO_0 : dO h F i 0 = h := rfl
theorem dO_s : dO h F i (k + 1) = 31 * dO h F i k + Int32.toInt64 (F (i * 5 + k)) := rfl
theorem dS_0 : dS h F q 0 = h := rfl
theorem dS_s : dS h F q (i + 1) = 31 * dO (dS h F q i) F i 5 + Int32.toInt64 (lossF F i q) := rfl
theorem dN_0 : dN h F G n S 0 = h := rfl
theorem dN_s : dN h F G n S (i + 1) = 31 * (31 * dN h F G n S i + Int32.toInt64 ((runF F G n (G 0) S).2.2.1 i)) + Int32.toInt64 ((runF F G n (G 0) S).2.2.2 i) := rfl
theorem dR_0 : dR h F G n S 0 = h := rfl
theorem dR_s : dR h F G n S (k + 1) = 31 * dR h F G n S k + Int32.toInt64 (runA F G n S (nI k)) := rfl
end DIG
