/-! LAYS, the reference's does and digest. -/
def lay1 (L : Ln) : Int32 × Ln := if bestF L.2.2.1 L.2.2.2 L.1 (L.2.2.2 0) = 1073741824 then (-1000003, L) else (szI (bestF L.2.2.1 L.2.2.2 L.1 (L.2.2.2 0)), (L.1, btI (bestF L.2.2.1 L.2.2.2 L.1 (L.2.2.2 0)), L.2.2.1, L.2.2.2))
def lay2 (L : Ln) : Int32 × Ln := if brF L.2.2.1 L.2.2.2 L.1 (L.2.2.2 0) (2 ^ L.1) = -1000001 then (-1000003, L) else (bcI (brF L.2.2.1 L.2.2.2 L.1 (L.2.2.2 0) (2 ^ L.1)), (L.1, brF L.2.2.1 L.2.2.2 L.1 (L.2.2.2 0) (2 ^ L.1), L.2.2.1, L.2.2.2))
theorem lay1_n {n : Nat} {P : Int32} {F G : Nat → Int32} (h : bestF F G n (G 0) = 1073741824) : lay1 (n, P, F, G) = (-1000003, (n, P, F, G)) := if_pos h
theorem lay1_y {n : Nat} {P : Int32} {F G : Nat → Int32} (h : ¬ bestF F G n (G 0) = 1073741824) : lay1 (n, P, F, G) = (szI (bestF F G n (G 0)), (n, btI (bestF F G n (G 0)), F, G)) := if_neg h
theorem lay2_n {n : Nat} {P : Int32} {F G : Nat → Int32} (h : brF F G n (G 0) (2 ^ n) = -1000001) : lay2 (n, P, F, G) = (-1000003, (n, P, F, G)) := if_pos h
theorem lay2_y {n : Nat} {P : Int32} {F G : Nat → Int32} (h : ¬ brF F G n (G 0) (2 ^ n) = -1000001) : lay2 (n, P, F, G) = (bcI (brF F G n (G 0) (2 ^ n)), (n, brF F G n (G 0) (2 ^ n), F, G)) := if_neg h
theorem isRef_NO : isRef (-1000003) = true := rfl
theorem bc_noref {P : Int32} (h : okPumps P) : isRef (bcI P) = false := bcI_small h
def dFin2 (h : Int64) (f0 f1 m : Int32) : Int64 := hF (hF (hF h f0) f1) m
def dBase (rb rn rf : Int32) (N sl n S : Nat) (F G : Nat → Int32) : Int64 := dR (dN (dS (dC (dT rb rn rf N sl 5) (n, nI S, F, G) 11) F (G 0) n) F G n S (n + 1)) F G n S 3
def digM (rb rn rf : Int32) (N sl n S : Nat) (F G : Nat → Int32) : Int64 := dFin2 (dBase rb rn rf N sl n S F G) (few2 F G n (G 0) 0) (few2 F G n (G 0) 1) (mostF F G n S)
theorem digF_eq (rb rn rf : Int32) (N sl n S : Nat) (F G : Nat → Int32) : digF rb rn rf N sl n S F G = dFin2 (dBase rb rn rf N sl n S F G) (fewF F G n (G 0) 0) (fewF F G n (G 0) 1) (mostF F G n S) := rfl
theorem dR_3 {h : Int64} {F G : Nat → Int32} {n S : Nat} : dR h F G n S 3 = 31 * (31 * (31 * h + Int32.toInt64 (runA F G n S 0)) + Int32.toInt64 (runA F G n S 1)) + Int32.toInt64 (runA F G n S 2) := rfl
theorem init_row : ∀ j, j < 58 → upd (upd (upd (upd (upd (fun _ => 0) 2 10) 3 20) 4 30) 5 100) 6 5 j = rowL (0, 0, fun _ => 0, kFirst) j := by decide +kernel
theorem init_ref : ∀ j, j < 3 → (0 : Int32) = ref3 0 0 0 j := by decide +kernel
theorem past_cpy {p g : Nat → Int32} {k : Nat} {K : Nat → Ln} {j : Nat} (h : pastOk p k K) (hk : 0 < k) (hj : j < 58) : va_cpy p g (58 * (k - 1)) 0 58 j = rowL (K (k - 1)) j := past_back (k := k - 1) (by rw [show k - 1 + 1 = k by omega]; exact h) hj
theorem past_less {p : Nat → Int32} {k : Nat} {K : Nat → Ln} (h : pastOk p k K) : pastOk p (k - 1) K := fun i hi j hj => h i (by omega) j hj
