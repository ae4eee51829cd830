/-! THE REFERENCE: what is told in. -/
def sd4 (a b c d : Int32) : Nat → Int32 := fun j => if j = 0 then a else if j = 1 then b else if j = 2 then c else d
theorem e_sd4 {f : Nat → Int32} {a b c d : Int32} {j : Nat} (hj : j < 4) : upd (upd (upd (upd f 0 a) 1 b) 2 c) 3 d j = sd4 a b c d j := by
  have : j = 0 ∨ j = 1 ∨ j = 2 ∨ j = 3 := by omega
  rcases this with rfl | rfl | rfl | rfl <;> rfl
def bSpan (n : Nat) (a b c d : Int32) : Int32 := if okSpan a b c d = true then (if n = 10 then -1000004 else 0) else -1000002
def bMend (L : Ln) (i : Int32) : Int32 := if inR i 0 (nI L.1 - 1) = true then (if noMend L i = true then -1000003 else 0) else -1000002
def barF (L : Ln) (c : Int32) (v : Nat → Int32) : Int32 := if c = 104 then bSpan L.1 (v 0) (v 1) (v 2) (v 3) else if c = 107 then (if okSet (v 0) (v 1) = true then 0 else -1000002) else if c = 109 then bMend L (v 0) else if c = 112 then (if inR (v 0) 0 (nI L.1) = true then 0 else -1000002) else if c = 120 then (if inR (v 0) 0 (nI L.1 - 1) = true then 0 else -1000002) else (if L.1 = 0 then -1000003 else 0)
section OKS
variable {a b c d : Int32} {n : Nat}
theorem okS_t (h1 : inR a 1 30 = true) (h2 : inR b 0 3 = true) (h3 : inR c (-50) 50 = true) (h4 : inR d 0 1 = true) : okSpan a b c d = true := by unfold okSpan; rw [h1, h2, h3, h4]; rfl
theorem okS_1 (h : inR a 1 30 = false) : okSpan a b c d = false := by unfold okSpan; rw [h]; rfl
theorem okS_2 (h : inR b 0 3 = false) : okSpan a b c d = false := by unfold okSpan; rw [h, Bool.false_and, Bool.and_false]
theorem okS_3 (h : inR c (-50) 50 = false) : okSpan a b c d = false := by unfold okSpan; rw [h, Bool.false_and, Bool.and_false, Bool.and_false]
theorem okS_4 (h : inR d 0 1 = false) : okSpan a b c d = false := by unfold okSpan; rw [h, Bool.and_false, Bool.and_false, Bool.and_false]
theorem bSpan_b (h : okSpan a b c d = false) : -1000002 = bSpan n a b c d := (if_neg (by rw [h]; decide)).symm
theorem bSpan_f (h : okSpan a b c d = true) (h2 : n = 10) : -1000004 = bSpan n a b c d := by unfold bSpan; rw [if_pos h, if_pos h2]
theorem bSpan_0 (h : okSpan a b c d = true) (h2 : ¬ n = 10) : 0 = bSpan n a b c d := by unfold bSpan; rw [if_pos h, if_neg h2]
theorem okSet_1 (h : inR a 0 5 = false) : okSet a b = false := by unfold okSet; rw [h]; rfl
theorem okSet_2 (h : inR b (kLow (pl a)) (kHigh (pl a)) = false) : okSet a b = false := by unfold okSet; rw [h, Bool.and_false]
theorem okSet_t (h1 : inR a 0 5 = true) (h : inR b (kLow (pl a)) (kHigh (pl a)) = true) : okSet a b = true := by unfold okSet; rw [h, h1]; rfl
theorem zb_t {p : Bool} (h : p = true) : (0 : Int32) = if p = true then 0 else -1000002 := (if_pos h).symm
theorem zb_f {p : Bool} (h : p = false) : (-1000002 : Int32) = if p = true then 0 else -1000002 := (if_neg (by rw [h]; decide)).symm
end OKS
section BAR
variable {L : Ln} {c : Int32} {v : Nat → Int32}
theorem bMend_f {i : Int32} (h : inR i 0 (nI L.1 - 1) = false) : -1000002 = bMend L i := (if_neg (by rw [h]; decide)).symm
theorem bMend_n {i : Int32} (h : inR i 0 (nI L.1 - 1) = true) (h2 : noMend L i = true) : -1000003 = bMend L i := by unfold bMend; rw [if_pos h, if_pos h2]
theorem bMend_0 {i : Int32} (h : inR i 0 (nI L.1 - 1) = true) (h2 : noMend L i = false) : 0 = bMend L i := by unfold bMend; rw [if_pos h, if_neg (by rw [h2]; decide)]
theorem noM_1 {n : Nat} {P : Int32} {F G : Nat → Int32} {j : Nat} (hj : j < 10) (h : F (j * 5 + 4) = 0) : noMend (n, P, F, G) (nI j) = true := by unfold noMend; rw [pl_nI (show j < 2147483648 by omega), decide_eq_true h]; rfl
theorem noM_2 {n : Nat} {P : Int32} {F G : Nat → Int32} {j : Nat} (hj : j < 10) (h : G 5 < hosesF F j) : noMend (n, P, F, G) (nI j) = true := by unfold noMend; rw [pl_nI (show j < 2147483648 by omega), decide_eq_true h, Bool.or_true]
theorem noM_0 {n : Nat} {P : Int32} {F G : Nat → Int32} {j : Nat} (hj : j < 10) (h : ¬ F (j * 5 + 4) = 0) (h2 : ¬ G 5 < hosesF F j) : noMend (n, P, F, G) (nI j) = false := by unfold noMend; rw [pl_nI (show j < 2147483648 by omega), decide_eq_false h, decide_eq_false h2]; rfl
theorem bar_104 (h : c = 104) : bSpan L.1 (v 0) (v 1) (v 2) (v 3) = barF L c v := (if_pos h).symm
theorem bar_107 (h0 : ¬ c = 104) (h : c = 107) : (if okSet (v 0) (v 1) = true then 0 else -1000002) = barF L c v := by unfold barF; rw [if_neg h0, if_pos h]
theorem bar_109 (h0 : ¬ c = 104) (h1 : ¬ c = 107) (h : c = 109) : bMend L (v 0) = barF L c v := by unfold barF; rw [if_neg h0, if_neg h1, if_pos h]
theorem bar_112 (h0 : ¬ c = 104) (h1 : ¬ c = 107) (h2 : ¬ c = 109) (h : c = 112) : (if inR (v 0) 0 (nI L.1) = true then 0 else -1000002) = barF L c v := by unfold barF; rw [if_neg h0, if_neg h1, if_neg h2, if_pos h]
theorem bar_120 (h0 : ¬ c = 104) (h1 : ¬ c = 107) (h2 : ¬ c = 109) (h3 : ¬ c = 112) (h : c = 120) : (if inR (v 0) 0 (nI L.1 - 1) = true then 0 else -1000002) = barF L c v := by unfold barF; rw [if_neg h0, if_neg h1, if_neg h2, if_neg h3, if_pos h]
theorem bar_c (h0 : ¬ c = 104) (h1 : ¬ c = 107) (h2 : ¬ c = 109) (h3 : ¬ c = 112) (h4 : ¬ c = 120) : (if L.1 = 0 then -1000003 else 0) = barF L c v := by unfold barF; rw [if_neg h0, if_neg h1, if_neg h2, if_neg h3, if_neg h4]
theorem ord_104 (h : c = 104) : sOrd L c v = sSpan L (v 0) (v 1) (v 2) (v 3) := if_pos h
theorem ord_107 (h0 : ¬ c = 104) (h : c = 107) : sOrd L c v = sSet L (v 0) (v 1) := by unfold sOrd; rw [if_neg h0, if_pos h]
theorem ord_109 (h0 : ¬ c = 104) (h1 : ¬ c = 107) (h : c = 109) : sOrd L c v = sMend L (v 0) := by unfold sOrd; rw [if_neg h0, if_neg h1, if_pos h]
theorem ord_112 (h0 : ¬ c = 104) (h1 : ¬ c = 107) (h2 : ¬ c = 109) (h : c = 112) : sOrd L c v = sPump L (v 0) := by unfold sOrd; rw [if_neg h0, if_neg h1, if_neg h2, if_pos h]
theorem ord_120 (h0 : ¬ c = 104) (h1 : ¬ c = 107) (h2 : ¬ c = 109) (h3 : ¬ c = 112) (h : c = 120) : sOrd L c v = sBurst L (v 0) := by unfold sOrd; rw [if_neg h0, if_neg h1, if_neg h2, if_neg h3, if_pos h]
theorem ord_c (h0 : ¬ c = 104) (h1 : ¬ c = 107) (h2 : ¬ c = 109) (h3 : ¬ c = 112) (h4 : ¬ c = 120) : sOrd L c v = sCut L := by unfold sOrd; rw [if_neg h0, if_neg h1, if_neg h2, if_neg h3, if_neg h4]
theorem bS_0 {n : Nat} {x y z t : Int32} (h : bSpan n x y z t = 0) : okSpan x y z t = true ∧ ¬ n = 10 := by
  unfold bSpan at h
  by_cases h1 : okSpan x y z t = true
  · rw [if_pos h1] at h
    refine ⟨h1, fun h2 => ?_⟩
    rw [if_pos h2] at h
    exact absurd h (by decide)
  · rw [if_neg h1] at h; exact absurd h (by decide)
theorem zb_0 {p : Bool} (h : (if p = true then (0 : Int32) else -1000002) = 0) : p = true := by
  by_cases h1 : p = true
  · exact h1
  · rw [if_neg h1] at h; exact absurd h (by decide)
theorem bM_0 {i : Int32} (h : bMend L i = 0) : inR i 0 (nI L.1 - 1) = true ∧ noMend L i = false := by
  unfold bMend at h
  by_cases h1 : inR i 0 (nI L.1 - 1) = true
  · rw [if_pos h1] at h
    by_cases h2 : noMend L i = true
    · rw [if_pos h2] at h; exact absurd h (by decide)
    · exact ⟨h1, by cases hz : noMend L i <;> simp_all⟩
  · rw [if_neg h1] at h; exact absurd h (by decide)
theorem zc_0 {n : Nat} (h : (if n = 0 then (-1000003 : Int32) else 0) = 0) : ¬ n = 0 := fun h1 => by rw [if_pos h1] at h; exact absurd h (by decide)
/-- where the reference bars an order it is refused, and so it is by the class; else it is done -/
theorem bar_ref (h : okLn L) (hn : ¬ barF L c v = 0) : sOrd L c v = (barF L c v, L) ∧ isRef (barF L c v) = true := by
  by_cases h1 : c = 104
  · rw [← bar_104 h1] at hn ⊢
    rw [ord_104 h1]
    unfold bSpan at hn ⊢
    unfold sSpan
    by_cases k : okSpan (v 0) (v 1) (v 2) (v 3) = true
    · rw [if_pos k] at hn; rw [if_pos k, if_pos k]
      by_cases k2 : L.1 = 10
      · rw [if_pos k2, if_neg (by omega)]; exact ⟨rfl, by decide⟩
      · rw [if_neg k2] at hn; exact absurd rfl hn
    · rw [if_neg k, if_neg k]; exact ⟨rfl, by decide⟩
  · by_cases h2 : c = 107
    · rw [← bar_107 h1 h2] at hn ⊢
      rw [ord_107 h1 h2]
      unfold sSet
      by_cases k : okSet (v 0) (v 1) = true
      · rw [if_pos k] at hn; exact absurd rfl hn
      · rw [if_neg k, if_neg k]; exact ⟨rfl, by decide⟩
    · by_cases h3 : c = 109
      · rw [← bar_109 h1 h2 h3] at hn ⊢
        rw [ord_109 h1 h2 h3]
        unfold bMend at hn ⊢
        unfold sMend
        by_cases k : inR (v 0) 0 (nI L.1 - 1) = true
        · rw [if_pos k] at hn; rw [if_pos k, if_pos k]
          by_cases k2 : noMend L (v 0) = true
          · rw [if_pos k2, if_pos k2]; exact ⟨rfl, by decide⟩
          · rw [if_neg k2] at hn; exact absurd rfl hn
        · rw [if_neg k, if_neg k]; exact ⟨rfl, by decide⟩
      · by_cases h4 : c = 112
        · rw [← bar_112 h1 h2 h3 h4] at hn ⊢
          rw [ord_112 h1 h2 h3 h4]
          unfold sPump
          by_cases k : inR (v 0) 0 (nI L.1) = true
          · rw [if_pos k] at hn; exact absurd rfl hn
          · rw [if_neg k, if_neg k]; exact ⟨rfl, by decide⟩
        · by_cases h5 : c = 120
          · rw [← bar_120 h1 h2 h3 h4 h5] at hn ⊢
            rw [ord_120 h1 h2 h3 h4 h5]
            unfold sBurst
            by_cases k : inR (v 0) 0 (nI L.1 - 1) = true
            · rw [if_pos k] at hn; exact absurd rfl hn
            · rw [if_neg k, if_neg k]; exact ⟨rfl, by decide⟩
          · rw [← bar_c h1 h2 h3 h4 h5] at hn ⊢
            rw [ord_c h1 h2 h3 h4 h5]
            unfold sCut
            by_cases k : L.1 = 0
            · rw [if_pos k, if_pos k]; exact ⟨rfl, by decide⟩
            · rw [if_neg k] at hn; exact absurd rfl hn
end BAR
theorem bar_no {L : Ln} {c : Int32} {v : Nat → Int32} (h : okLn L) (h0 : barF L c v = 0) : isRef (sOrd L c v).1 = false := by
  have hn := h.1
  by_cases h1 : c = 104
  · rw [← bar_104 h1] at h0
    rw [ord_104 h1]
    obtain ⟨k1, k2⟩ := bS_0 h0
    unfold sSpan
    rw [if_pos k1, if_pos (by omega)]
    exact nI_noref _ (by omega)
  · by_cases h2 : c = 107
    · rw [← bar_107 h1 h2] at h0
      rw [ord_107 h1 h2]
      have k1 := zb_0 h0
      unfold sSet
      rw [if_pos k1]
      unfold okSet at k1
      simp only [Bool.and_eq_true] at k1
      obtain ⟨j, hj, e⟩ := set_in k1.1
      rw [e, pl_nI (by omega)]
      have h4 := h.2.2.2.pos hj
      exact ref_pos h4.1 h4.2
    · by_cases h3 : c = 109
      · rw [← bar_109 h1 h2 h3] at h0
        rw [ord_109 h1 h2 h3]
        obtain ⟨k1, k2⟩ := bM_0 h0
        unfold sMend
        rw [if_pos k1, if_neg (by rw [k2]; decide)]
        obtain ⟨j, hj, e⟩ := span_in hn k1
        rw [e] at k2 ⊢
        rw [pl_nI (by omega)]
        have h5 : ¬ L.2.2.2 5 < hosesF L.2.2.1 j := fun q => by
          unfold noMend at k2
          rw [pl_nI (by omega), decide_eq_true q, Bool.or_true] at k2
          cases k2
        have h7 := inR_le (mend_in h.2.2.1 h.2.2.2 (show j < 10 by omega) h5)
        exact ref_pos h7.1 (i3 h7.2 (by decide))
      · by_cases h4 : c = 112
        · rw [← bar_112 h1 h2 h3 h4] at h0
          rw [ord_112 h1 h2 h3 h4]
          have k1 := zb_0 h0
          unfold sPump
          rw [if_pos k1]
          obtain ⟨j, hj, e⟩ := node_in hn k1
          rw [e]
          exact bcI_small (h.2.1.xor (by omega))
        · by_cases h5 : c = 120
          · rw [← bar_120 h1 h2 h3 h4 h5] at h0
            rw [ord_120 h1 h2 h3 h4 h5]
            have k1 := zb_0 h0
            unfold sBurst
            rw [if_pos k1]
            obtain ⟨j, hj, e⟩ := span_in hn k1
            rw [e, pl_nI (by omega)]
            rcases (h.2.2.1 j (by omega)).2.2 with q | q
            · rw [q]; exact (by decide : isRef (1 - 0) = false)
            · rw [q]; exact (by decide : isRef (1 - 1) = false)
          · rw [← bar_c h1 h2 h3 h4 h5] at h0
            rw [ord_c h1 h2 h3 h4 h5]
            have k1 := zc_0 h0
            unfold sCut
            rw [if_neg k1]
            exact nI_noref _ (by omega)
def fK (v : Int32) (K : Nat → Ln) (k : Nat) (L : Ln) : Nat → Ln := if isRef v = true then K else pushK K k L
theorem gB_r {v x : Int32} (h : isRef v = true) : gB v x = uB v x := if_pos h
theorem gN_r {v x : Int32} (h : isRef v = true) : gN v x = uN v x := if_pos h
theorem gF_r {v x : Int32} (h : isRef v = true) : gF v x = uF v x := if_pos h
theorem gB_n {v x : Int32} (h : isRef v = false) : gB v x = x := if_neg (by rw [h]; decide)
theorem gN_n {v x : Int32} (h : isRef v = false) : gN v x = x := if_neg (by rw [h]; decide)
theorem gF_n {v x : Int32} (h : isRef v = false) : gF v x = x := if_neg (by rw [h]; decide)
theorem fsl_r {v : Int32} {k : Nat} (h : isRef v = true) : fsl v k = k := if_pos h
theorem fsl_n {v : Int32} {k : Nat} (h : isRef v = false) : fsl v k = min (k + 1) 5 := if_neg (by rw [h]; decide)
theorem fK_r {v : Int32} {K : Nat → Ln} {k : Nat} {L : Ln} (h : isRef v = true) : fK v K k L = K := if_pos h
theorem fK_n {v : Int32} {K : Nat → Ln} {k : Nat} {L : Ln} (h : isRef v = false) : fK v K k L = pushK K k L := if_neg (by rw [h]; decide)
