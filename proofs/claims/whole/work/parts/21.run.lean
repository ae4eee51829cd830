set_option maxHeartbeats 4000000 in
set_option maxRecDepth 100000 in
theorem c_J7_fill_53178 (l : Launch) (D : va_G) (cI cB cO : ClassId) (sz : Nat) (a N : Nat) (f : Nat → Int32) (v : Int32) (hN : N < 2147483648) : CV l yJ7_fill_53178 wsJ7_fill_53178 ({ frames := 0, cells := 0, slots := 0, locals := 0 } : Room) D (tyL cI cB cO) [.ref a, .int v] [(a, .inl (cI, N, .inl f))] sz (fun (_ : Unit) => True) (fun (u : Unit) => [(a, .inl (cI, N, .inl (fun _ => v)))]) 0 0 := by
  refine ct_of (cc := cJ7_fill_53178) (maxL := 4) (ret := none) (own := RJ7) (Qc := QV D (fun (_ : Unit) => True) (fun (u : Unit) => [(a, .inl (cI, N, .inl (fun _ => v)))])) (by decide) rfl rfl (Nat.le_of_ble_eq_true rfl) ?_
  intro pM eM sM mM below meth cM AM ls H locs hx hb hr hts hown hlocks hml hin hK hP hD hS hA hSt hl
  have hl : lv_has ls 4 [(0, .ref a), (1, .int v)] := hl
  refine lv_iconst (v := 0) hx hb dJ7_fill_53178_0 (by decide) ?_
  refine lv_istore_n (lv' := [(2, .int 0), (0, .ref a), (1, .int v)]) hx hb dJ7_fill_53178_1 rfl hl (by decide) rfl (fun ls hl => ?_)
  refine lv_aload_n hx hb dJ7_fill_53178_2 rfl (lv_at hl 1 rfl) ?_
  refine va_alen (v := nI N) hx hb hK hP 0 0 rfl rfl rfl dJ7_fill_53178_3 ?_
  refine lv_istore_n (lv' := [(3, .int (nI N)), (2, .int 0), (0, .ref a), (1, .int v)]) hx hb dJ7_fill_53178_4 rfl hl (by decide) rfl (fun ls hl => ?_)
  have lp_1 : ∀ (nn : Nat) (i : Nat), (i ≤ N) → (N - i) < nn → ∀ (H : Heap) (locs : List Loc), va_P D vwCl [(a, .inl (cI, N, .inl (fillF f v i)))] H → va_D AM [(a, .inl (cI, N, .inl (fillF f v i)))] → va_S AM sM.heap H locs → ∀ (ls : Array Slot), lv_has ls 4 [(0, .ref a), (1, .int v), (2, .int (nI i)), (3, .int (nI N))] → W pM l eM ({ frames := 0, cells := 0, slots := 0, locals := 0 } : Room) sM mM ([.ref a, .int v] : List Value).toArray below meth cM H locs 0 0 (MQ below (QV D (fun (_ : Unit) => True) (fun (u : Unit) => [(a, .inl (cI, N, .inl (fun _ => v)))]) AM) ([.ref a, .int v] : List Value).toArray sM 0 0 AM) (F0 mM 5 ls []) := by
    intro nn
    induction nn with
    | zero =>
      intro i hi hm
      exact absurd hm (Nat.not_lt_zero _)
    | succ nn ih_2 =>
      intro i hi hm H locs hP hD hS ls hl
      refine lv_iload_n hx hb dJ7_fill_53178_5 rfl (lv_at hl 2 rfl) ?_
      refine lv_iload_n hx hb dJ7_fill_53178_6 rfl (lv_at hl 3 rfl) ?_
      refine lv_icmp_ge (tgt := 20) hx hb dJ7_fill_53178_7 (by decide) (fun c_3 => ?_) (fun c_3 => ?_)
      · have c_3 := Int32.not_lt.mpr c_3
        have c_3 : i = N := by have h := mt (nI_ltI (a := i) (b := N) (by omega) (by omega)).mpr c_3; omega
        obtain ⟨hP, hD⟩ := e_ext 0 (fun _ => v) hP hD rfl (fun j hj => if_pos (show j < i by omega))
        have hP : va_P D vwCl [(a, .inl (cI, N, .inl (fun _ => v)))] H := hP
        have hD : va_D AM [(a, .inl (cI, N, .inl (fun _ => v)))] := hD
        refine e_v (u := ()) hx hb hr hlocks hP hD hS dJ7_fill_53178_20 ?_ ?_
        · rfl
        · trivial
      · have c_3 := Int32.not_le.mp c_3
        have c_3 : i < N := (nI_ltI (by omega) (by omega)).mp c_3
        refine lv_aload_n hx hb dJ7_fill_53178_10 rfl (lv_at hl 0 rfl) ?_
        refine lv_iload_n hx hb dJ7_fill_53178_11 rfl (lv_at hl 2 rfl) ?_
        refine lv_iload_n hx hb dJ7_fill_53178_12 rfl (lv_at hl 1 rfl) ?_
        refine va_iast hx hb hK hP hD hS 0 0 rfl rfl (vp_in_nI (by omega) (by omega)) dJ7_fill_53178_13 (fun H locs hP hD hS => ?_)
        rw [show Int32.toNatClampNeg (nI i) = i from (nI_clamp (by omega))] at hP hD
        have hP : va_P D vwCl [(a, .inl (cI, N, .inl (upd (fillF f v i) i v)))] H := hP
        have hD : va_D AM [(a, .inl (cI, N, .inl (upd (fillF f v i) i v)))] := hD
        refine lv_iinc (v := nI (i + 1)) (lv' := [(2, .int (nI (i + 1))), (0, .ref a), (1, .int v), (3, .int (nI N))]) hx hb dJ7_fill_53178_14 hl (k := 2) rfl (nI_add i 1) (by decide) rfl (fun ls hl => ?_)
        refine lv_goto (tgt := 5) hx hb dJ7_fill_53178_17 (by decide) ?_
        rw [show upd (fillF f v i) i v = fillF f v (i + 1) from fillF_s f v i] at hP hD
        have hl9 : lv_has ls 4 [(0, .ref a), (1, .int v), (2, .int (nI (i + 1))), (3, .int (nI N))] := lv_sub hl [1, 2, 0, 3] rfl
        exact ih_2 (i + 1) (by first | assumption | omega) (by omega) H locs hP hD hS ls hl9
  rw [show f = fillF f v 0 from fillF_0 f v] at hP hD
  have hl9 : lv_has ls 4 [(0, .ref a), (1, .int v), (2, .int 0), (3, .int (nI N))] := lv_sub hl [2, 3, 1, 0] rfl
  rw [show ([(0, .ref a), (1, .int v), (2, .int 0), (3, .int (nI N))] : List (Nat × Value)) = [(0, .ref a), (1, .int v), (2, .int (nI 0)), (3, .int (nI N))] from rfl] at hl9
  exact lp_1 ((N - 0) + 1) 0 (by first | assumption | omega) (Nat.lt_succ_self _) H locs hP hD hS ls hl9
theorem in_X2_failureAt_0 : ∀ w ∈ wsX00, w ∈ wsX2_failureAt := fun _ h => List.mem_cons_of_mem _ (List.mem_append_left _ (List.mem_append_right _ h))
theorem in_X2_failureAt_2 : ∀ w ∈ wsX20, w ∈ wsX2_failureAt := fun _ h => List.mem_cons_of_mem _ (List.mem_append_right _ h)
set_option maxHeartbeats 4000000 in
set_option maxRecDepth 100000 in
theorem c_X2_failureAt (l : Launch) (D : va_G) (cI cB cO : ClassId) (sz : Nat) (w0 w1 w2 : Nat) (wh how : Int32) (a b : Nat → Int32) (h0 h1 h2 n S : Nat) (F G : Nat → Int32) (i : Nat) (p q : Int32) (hn : n ≤ 10) (hf : okFacts F) (hi : i ≤ n) : CI l yX2_failureAt wsX2_failureAt ({ frames := 3, cells := 0, slots := 0, locals := 68 } : Room) D (tyL cI cB cO) [.ref w0, .ref h0, .int (nI i), .int p, .int q] [(w0, .inr (2, [.int wh, .int how, .ref w1, .ref w2])), (w1, .inl (cI, 11, .inl a)), (w2, .inl (cI, 11, .inl b)), (h0, .inr (0, [.int (nI n), .int (nI S), .ref h1, .ref h2])), (h1, .inl (cI, 50, .inl F)), (h2, .inl (cI, 6, .inl G))] sz (fun (r : Int32) (_ : Unit) => r = fAt F G n (S.testBit i) i p q) (fun (u : Unit) => [(w0, .inr (2, [.int wh, .int how, .ref w1, .ref w2])), (w1, .inl (cI, 11, .inl a)), (w2, .inl (cI, 11, .inl (bAt G (S.testBit i) i p b))), (h0, .inr (0, [.int (nI n), .int (nI S), .ref h1, .ref h2])), (h1, .inl (cI, 50, .inl F)), (h2, .inl (cI, 6, .inl G))]) 0 0 := by
  refine ct_of (cc := cX2_failureAt) (maxL := 7) (ret := some .int) (own := RX2) (Qc := QI D (fun (r : Int32) (_ : Unit) => r = fAt F G n (S.testBit i) i p q) (fun (u : Unit) => [(w0, .inr (2, [.int wh, .int how, .ref w1, .ref w2])), (w1, .inl (cI, 11, .inl a)), (w2, .inl (cI, 11, .inl (bAt G (S.testBit i) i p b))), (h0, .inr (0, [.int (nI n), .int (nI S), .ref h1, .ref h2])), (h1, .inl (cI, 50, .inl F)), (h2, .inl (cI, 6, .inl G))])) (by decide) rfl rfl (Nat.le_of_ble_eq_true rfl) ?_
  intro pM eM sM mM below meth cM AM ls H locs hx hb hr hts hown hlocks hml hin hK hP hD hS hA hSt hl
  have hl : lv_has ls 7 [(0, .ref w0), (1, .ref h0), (2, .int (nI i)), (3, .int p), (4, .int q)] := hl
  refine lv_aload_n hx hb dX2_failureAt_0 rfl (lv_at hl 1 rfl) ?_
  refine lv_iload_n hx hb dX2_failureAt_1 rfl (lv_at hl 2 rfl) ?_
  refine k_i (va_runV (As := [.int (nI i)]) (rest := []) ⟨hx, hb, hml, hown, hts⟩ (c_X0_hasPump l D cI cB cO H.size h0 h1 h2 n S i (by first | assumption | omega | exact okFacts.sort (by assumption) (by omega))) (cwV 1 hts gX2_failureAt_X0_hasPump rfl rfl rfl (by decide +kernel) ⟨Nat.le_of_ble_eq_true rfl, Nat.le_of_ble_eq_true rfl⟩) (preV_of hK hP hD hS hA hSt [3] (by decide) rfl 3 (ci := 0) rfl rfl) rfl rfl hl.1 rfl (lv_room (Nat.le_of_ble_eq_true rfl)) dX2_failureAt_2 ⟨Nat.le_of_ble_eq_true rfl, Nat.le_of_ble_eq_true rfl⟩) hP hD hS hA [3] [0, 1, 2, 4, 5] [0, 1, 2, 5, 3, 4] [(w0, .inr (2, [.int wh, .int how, .ref w1, .ref w2])), (w1, .inl (cI, 11, .inl a)), (w2, .inl (cI, 11, .inl b)), (h1, .inl (cI, 50, .inl F)), (h2, .inl (cI, 6, .inl G))] (fun (u_1 : Unit) => [(w0, .inr (2, [.int wh, .int how, .ref w1, .ref w2])), (w1, .inl (cI, 11, .inl a)), (w2, .inl (cI, 11, .inl b)), (h0, .inr (0, [.int (nI n), .int (nI S), .ref h1, .ref h2])), (h1, .inl (cI, 50, .inl F)), (h2, .inl (cI, 6, .inl G))]) rfl rfl (by decide) (by decide) (by decide) (fun _ => rfl) (fun r_1 u_1 H locs q_1 hP hD hS => ?_)
  obtain rfl : r_1 = bI (S.testBit i) := q_1
  refine lv_istore (lv' := [(5, .int (bI (S.testBit i))), (0, .ref w0), (1, .ref h0), (2, .int (nI i)), (3, .int p), (4, .int q)]) hx hb dX2_failureAt_5 hl (by decide) rfl (fun ls hl => ?_)
  refine lv_iload hx hb dX2_failureAt_7 (lv_at hl 0 rfl) ?_
  refine lv_if_eq (tgt := 24) hx hb dX2_failureAt_9 (by decide) (fun c_2 => ?_) (fun c_2 => ?_)
  · have c_2 := bI_0.mp c_2
    have hq : S.testBit i = false ∨ ¬ p < G 4 := Or.inl c_2
    have hbit := c_2
    refine lv_iload hx hb dX2_failureAt_24 (lv_at hl 0 rfl) ?_
    refine lv_if_eq (tgt := 42) hx hb dX2_failureAt_26 (by decide) (fun c_3 => ?_) (fun c_3 => ?_)
    · have c_3 := bI_0.mp c_3
      refine lv_iload_n hx hb dX2_failureAt_42 rfl (lv_at hl 4 rfl) ?_
      refine e_n (y := afterP G (S.testBit i) p) (by rw [hbit]; rfl) ?_
      refine lv_istore (lv' := [(6, .int (afterP G (S.testBit i) p)), (5, .int (bI (S.testBit i))), (0, .ref w0), (1, .ref h0), (2, .int (nI i)), (3, .int p), (4, .int q)]) hx hb dX2_failureAt_43 hl (by decide) rfl (fun ls hl => ?_)
      refine lv_aload_n hx hb dX2_failureAt_45 rfl (lv_at hl 2 rfl) ?_
      refine va_get (D := D) (ci := 2) (v := .ref w2) (C := RX2) (T := TX2) (N := 4) hx hb hts in_X2_failureAt_2 hown hK hP 0 rfl rfl 3 (by decide) (hts (.fieldLink RX2 23 "HoseSpans$Run" "behind" "[I") (List.mem_of_getElem? (i := 6) (by decide +kernel))) (fun _ h9 => h9) rfl dX2_failureAt_46 ?_
      refine lv_iload_n hx hb dX2_failureAt_49 rfl (lv_at hl 4 rfl) ?_
      refine lv_iload hx hb dX2_failureAt_50 (lv_at hl 0 rfl) ?_
      refine va_iast hx hb hK hP hD hS 2 0 rfl rfl (vp_in_nI (by omega) (by decide)) dX2_failureAt_52 (fun H locs hP hD hS => ?_)
      rw [show Int32.toNatClampNeg (nI i) = i from (nI_clamp (by omega))] at hP hD
      have hP : va_P D vwCl [(w0, .inr (2, [.int wh, .int how, .ref w1, .ref w2])), (w1, .inl (cI, 11, .inl a)), (w2, .inl (cI, 11, .inl (upd b i (afterP G (S.testBit i) p)))), (h0, .inr (0, [.int (nI n), .int (nI S), .ref h1, .ref h2])), (h1, .inl (cI, 50, .inl F)), (h2, .inl (cI, 6, .inl G))] H := hP
      have hD : va_D AM [(w0, .inr (2, [.int wh, .int how, .ref w1, .ref w2])), (w1, .inl (cI, 11, .inl a)), (w2, .inl (cI, 11, .inl (upd b i (afterP G (S.testBit i) p)))), (h0, .inr (0, [.int (nI n), .int (nI S), .ref h1, .ref h2])), (h1, .inl (cI, 50, .inl F)), (h2, .inl (cI, 6, .inl G))] := hD
      rw [show (upd b i (afterP G (S.testBit i) p)) = (bAt G (S.testBit i) i p b) from (bAt_p hq).symm] at hP hD
      have hP : va_P D vwCl [(w0, .inr (2, [.int wh, .int how, .ref w1, .ref w2])), (w1, .inl (cI, 11, .inl a)), (w2, .inl (cI, 11, .inl (bAt G (S.testBit i) i p b))), (h0, .inr (0, [.int (nI n), .int (nI S), .ref h1, .ref h2])), (h1, .inl (cI, 50, .inl F)), (h2, .inl (cI, 6, .inl G))] H := hP
      have hD : va_D AM [(w0, .inr (2, [.int wh, .int how, .ref w1, .ref w2])), (w1, .inl (cI, 11, .inl a)), (w2, .inl (cI, 11, .inl (bAt G (S.testBit i) i p b))), (h0, .inr (0, [.int (nI n), .int (nI S), .ref h1, .ref h2])), (h1, .inl (cI, 50, .inl F)), (h2, .inl (cI, 6, .inl G))] := hD
      refine lv_iload_n hx hb dX2_failureAt_53 rfl (lv_at hl 4 rfl) ?_
      refine lv_aload_n hx hb dX2_failureAt_54 rfl (lv_at hl 3 rfl) ?_
      refine va_get (D := D) (ci := 0) (v := .int (nI n)) (C := RX0) (T := TX0) (N := 4) hx hb hts in_X2_failureAt_0 hown hK hP 3 rfl rfl 0 (by decide) (hts (.fieldLink RX2 37 "HoseSpans$Line" "spans" "I") (List.mem_of_getElem? (i := 7) (by decide +kernel))) (fun _ h9 => h9) rfl dX2_failureAt_55 ?_
      refine lv_icmp_ge (tgt := 71) hx hb dX2_failureAt_58 (by decide) (fun c_4 => ?_) (fun c_4 => ?_)
      · have c_4 := Int32.not_lt.mpr c_4
        have c_4 : ¬ i < n := fun h => c_4 ((nI_ltI (by omega) (by omega)).mpr h)
        refine lv_iload hx hb dX2_failureAt_71 (lv_at hl 0 rfl) ?_
        refine lv_aload_n hx hb dX2_failureAt_73 rfl (lv_at hl 3 rfl) ?_
        refine va_get (D := D) (ci := 0) (v := .ref h2) (C := RX0) (T := TX0) (N := 4) hx hb hts in_X2_failureAt_0 hown hK hP 3 rfl rfl 3 (by decide) (hts (.fieldLink RX2 32 "HoseSpans$Line" "settings" "[I") (List.mem_of_getElem? (i := 1) (by decide +kernel))) (fun _ h9 => h9) rfl dX2_failureAt_74 ?_
        refine lv_iconst (v := 2) hx hb dX2_failureAt_77 (by decide) ?_
        refine va_iald hx hb hK hP 5 0 rfl rfl (vp_in_nI (n := 2) (by decide) (by decide)) dX2_failureAt_78 ?_
        refine e_n (y := G 2) (congrArg G (by decide)) ?_
        refine lv_icmp_ge (tgt := 86) hx hb dX2_failureAt_79 (by decide) (fun c_5 => ?_) (fun c_5 => ?_)
        · have c_5 := Int32.not_lt.mpr c_5
          refine lv_iconst (v := 0) hx hb dX2_failureAt_86 (by decide) ?_
          refine e_i (u := ()) hx hb hr hlocks hP hD hS dX2_failureAt_87 ?_ ?_
          · rfl
          · first | exact (fAt_5 hq (by assumption) (by assumption)).symm | exact (fAt_0 hq (by assumption) (by assumption)).symm
        · have c_5 := Int32.not_le.mp c_5
          refine lv_iconst (v := 5) hx hb dX2_failureAt_82 (by decide) ?_
          refine lv_goto (tgt := 87) hx hb dX2_failureAt_83 (by decide) ?_
          refine e_i (u := ()) hx hb hr hlocks hP hD hS dX2_failureAt_87 ?_ ?_
          · rfl
          · first | exact (fAt_5 hq (by assumption) (by assumption)).symm | exact (fAt_0 hq (by assumption) (by assumption)).symm
      · have c_4 := Int32.not_le.mp c_4
        have c_4 : i < n := (nI_ltI (by omega) (by omega)).mp c_4
        refine lv_aload_n hx hb dX2_failureAt_61 rfl (lv_at hl 3 rfl) ?_
        refine lv_iload_n hx hb dX2_failureAt_62 rfl (lv_at hl 4 rfl) ?_
        refine lv_iload hx hb dX2_failureAt_63 (lv_at hl 0 rfl) ?_
        refine lv_iload hx hb dX2_failureAt_65 (lv_at hl 6 rfl) ?_
        refine k_i (va_runV (As := [.int (nI i), .int (afterP G (S.testBit i) p), .int q]) (rest := []) ⟨hx, hb, hml, hown, hts⟩ (c_X0_failureOf l D cI cB cO H.size h0 h1 h2 n (nI S) F i (afterP G (S.testBit i) p) q (by first | assumption | omega | exact okFacts.sort (by assumption) (by omega)) (by first | assumption | omega | exact okFacts.sort (by assumption) (by omega))) (cwV 3 hts gX2_failureAt_X0_failureOf rfl rfl rfl (by decide +kernel) ⟨Nat.le_of_ble_eq_true rfl, Nat.le_of_ble_eq_true rfl⟩) (preV_of hK hP hD hS hA hSt [3, 4] (by decide) rfl 3 (ci := 0) rfl rfl) rfl rfl hl.1 rfl (lv_room (Nat.le_of_ble_eq_true rfl)) dX2_failureAt_67 ⟨Nat.le_of_ble_eq_true rfl, Nat.le_of_ble_eq_true rfl⟩) hP hD hS hA [3, 4] [0, 1, 2, 5] [0, 1, 2, 4, 5, 3] [(w0, .inr (2, [.int wh, .int how, .ref w1, .ref w2])), (w1, .inl (cI, 11, .inl a)), (w2, .inl (cI, 11, .inl (bAt G (S.testBit i) i p b))), (h2, .inl (cI, 6, .inl G))] (fun (u_6 : Unit) => [(w0, .inr (2, [.int wh, .int how, .ref w1, .ref w2])), (w1, .inl (cI, 11, .inl a)), (w2, .inl (cI, 11, .inl (bAt G (S.testBit i) i p b))), (h0, .inr (0, [.int (nI n), .int (nI S), .ref h1, .ref h2])), (h1, .inl (cI, 50, .inl F)), (h2, .inl (cI, 6, .inl G))]) rfl rfl (by decide) (by decide) (by decide) (fun _ => rfl) (fun r_6 u_6 H locs q_6 hP hD hS => ?_)
        obtain rfl : r_6 = failF F i (afterP G (S.testBit i) p) q := q_6
        refine e_i (u := ()) hx hb hr hlocks hP hD hS dX2_failureAt_70 ?_ ?_
        · rfl
        · exact (fAt_s hq (by assumption)).symm
    · have c_3 := bI_n0.mp c_3
      exact absurd (hbit.symm.trans c_3) (by decide)
  · have c_2 := bI_n0.mp c_2
    have hbit := c_2
    refine lv_iload_n hx hb dX2_failureAt_12 rfl (lv_at hl 4 rfl) ?_
    refine lv_aload_n hx hb dX2_failureAt_13 rfl (lv_at hl 2 rfl) ?_
    refine va_get (D := D) (ci := 0) (v := .ref h2) (C := RX0) (T := TX0) (N := 4) hx hb hts in_X2_failureAt_0 hown hK hP 3 rfl rfl 3 (by decide) (hts (.fieldLink RX2 32 "HoseSpans$Line" "settings" "[I") (List.mem_of_getElem? (i := 1) (by decide +kernel))) (fun _ h9 => h9) rfl dX2_failureAt_14 ?_
    refine lv_iconst (v := 4) hx hb dX2_failureAt_17 (by decide) ?_
    refine va_iald hx hb hK hP 5 0 rfl rfl (vp_in_nI (n := 4) (by decide) (by decide)) dX2_failureAt_18 ?_
    refine e_n (y := G 4) (congrArg G (by decide)) ?_
    refine lv_icmp_ge (tgt := 24) hx hb dX2_failureAt_19 (by decide) (fun c_7 => ?_) (fun c_7 => ?_)
    · have c_7 := Int32.not_lt.mpr c_7
      have hq : S.testBit i = false ∨ ¬ p < G 4 := Or.inr c_7
      refine lv_iload hx hb dX2_failureAt_24 (lv_at hl 0 rfl) ?_
      refine lv_if_eq (tgt := 42) hx hb dX2_failureAt_26 (by decide) (fun c_8 => ?_) (fun c_8 => ?_)
      · have c_8 := bI_0.mp c_8
        exact absurd (hbit.symm.trans c_8) (by decide)
      · have c_8 := bI_n0.mp c_8
        refine lv_iload_n hx hb dX2_failureAt_29 rfl (lv_at hl 4 rfl) ?_
        refine lv_aload_n hx hb dX2_failureAt_30 rfl (lv_at hl 2 rfl) ?_
        refine va_get (D := D) (ci := 0) (v := .ref h2) (C := RX0) (T := TX0) (N := 4) hx hb hts in_X2_failureAt_0 hown hK hP 3 rfl rfl 3 (by decide) (hts (.fieldLink RX2 32 "HoseSpans$Line" "settings" "[I") (List.mem_of_getElem? (i := 1) (by decide +kernel))) (fun _ h9 => h9) rfl dX2_failureAt_31 ?_
        refine lv_iconst (v := 3) hx hb dX2_failureAt_34 (by decide) ?_
        refine va_iald hx hb hK hP 5 0 rfl rfl (vp_in_nI (n := 3) (by decide) (by decide)) dX2_failureAt_35 ?_
        refine e_n (y := G 3) (congrArg G (by decide)) ?_
        refine va_mmax hx hb (by rw [hml]; exact hl.1.symm) hown (hts (.methodLink RX2 52 Lib.Math.max.name) (List.mem_of_getElem? (i := 2) (by decide +kernel))) (hts (.static Lib.Math.max.name) (List.mem_of_getElem? (i := 3) (by decide +kernel))) (hts (.initialized RJ9) (List.mem_of_getElem? (i := 4) (by decide +kernel))) (hts _ (List.mem_of_getElem? (i := 5) rfl)) (Nat.le_of_ble_eq_true rfl) (Nat.le_of_ble_eq_true rfl) (Nat.le_of_ble_eq_true rfl) (Nat.le_of_ble_eq_true rfl) dX2_failureAt_36 ?_
        refine lv_goto (tgt := 43) hx hb dX2_failureAt_39 (by decide) ?_
        refine e_n (y := afterP G (S.testBit i) p) (by rw [hbit]; rfl) ?_
        refine lv_istore (lv' := [(6, .int (afterP G (S.testBit i) p)), (5, .int (bI (S.testBit i))), (0, .ref w0), (1, .ref h0), (2, .int (nI i)), (3, .int p), (4, .int q)]) hx hb dX2_failureAt_43 hl (by decide) rfl (fun ls hl => ?_)
        refine lv_aload_n hx hb dX2_failureAt_45 rfl (lv_at hl 2 rfl) ?_
        refine va_get (D := D) (ci := 2) (v := .ref w2) (C := RX2) (T := TX2) (N := 4) hx hb hts in_X2_failureAt_2 hown hK hP 0 rfl rfl 3 (by decide) (hts (.fieldLink RX2 23 "HoseSpans$Run" "behind" "[I") (List.mem_of_getElem? (i := 6) (by decide +kernel))) (fun _ h9 => h9) rfl dX2_failureAt_46 ?_
        refine lv_iload_n hx hb dX2_failureAt_49 rfl (lv_at hl 4 rfl) ?_
        refine lv_iload hx hb dX2_failureAt_50 (lv_at hl 0 rfl) ?_
        refine va_iast hx hb hK hP hD hS 2 0 rfl rfl (vp_in_nI (by omega) (by decide)) dX2_failureAt_52 (fun H locs hP hD hS => ?_)
        rw [show Int32.toNatClampNeg (nI i) = i from (nI_clamp (by omega))] at hP hD
        have hP : va_P D vwCl [(w0, .inr (2, [.int wh, .int how, .ref w1, .ref w2])), (w1, .inl (cI, 11, .inl a)), (w2, .inl (cI, 11, .inl (upd b i (afterP G (S.testBit i) p)))), (h0, .inr (0, [.int (nI n), .int (nI S), .ref h1, .ref h2])), (h1, .inl (cI, 50, .inl F)), (h2, .inl (cI, 6, .inl G))] H := hP
        have hD : va_D AM [(w0, .inr (2, [.int wh, .int how, .ref w1, .ref w2])), (w1, .inl (cI, 11, .inl a)), (w2, .inl (cI, 11, .inl (upd b i (afterP G (S.testBit i) p)))), (h0, .inr (0, [.int (nI n), .int (nI S), .ref h1, .ref h2])), (h1, .inl (cI, 50, .inl F)), (h2, .inl (cI, 6, .inl G))] := hD
        rw [show (upd b i (afterP G (S.testBit i) p)) = (bAt G (S.testBit i) i p b) from (bAt_p hq).symm] at hP hD
        have hP : va_P D vwCl [(w0, .inr (2, [.int wh, .int how, .ref w1, .ref w2])), (w1, .inl (cI, 11, .inl a)), (w2, .inl (cI, 11, .inl (bAt G (S.testBit i) i p b))), (h0, .inr (0, [.int (nI n), .int (nI S), .ref h1, .ref h2])), (h1, .inl (cI, 50, .inl F)), (h2, .inl (cI, 6, .inl G))] H := hP
        have hD : va_D AM [(w0, .inr (2, [.int wh, .int how, .ref w1, .ref w2])), (w1, .inl (cI, 11, .inl a)), (w2, .inl (cI, 11, .inl (bAt G (S.testBit i) i p b))), (h0, .inr (0, [.int (nI n), .int (nI S), .ref h1, .ref h2])), (h1, .inl (cI, 50, .inl F)), (h2, .inl (cI, 6, .inl G))] := hD
        refine lv_iload_n hx hb dX2_failureAt_53 rfl (lv_at hl 4 rfl) ?_
        refine lv_aload_n hx hb dX2_failureAt_54 rfl (lv_at hl 3 rfl) ?_
        refine va_get (D := D) (ci := 0) (v := .int (nI n)) (C := RX0) (T := TX0) (N := 4) hx hb hts in_X2_failureAt_0 hown hK hP 3 rfl rfl 0 (by decide) (hts (.fieldLink RX2 37 "HoseSpans$Line" "spans" "I") (List.mem_of_getElem? (i := 7) (by decide +kernel))) (fun _ h9 => h9) rfl dX2_failureAt_55 ?_
        refine lv_icmp_ge (tgt := 71) hx hb dX2_failureAt_58 (by decide) (fun c_9 => ?_) (fun c_9 => ?_)
        · have c_9 := Int32.not_lt.mpr c_9
          have c_9 : ¬ i < n := fun h => c_9 ((nI_ltI (by omega) (by omega)).mpr h)
          refine lv_iload hx hb dX2_failureAt_71 (lv_at hl 0 rfl) ?_
          refine lv_aload_n hx hb dX2_failureAt_73 rfl (lv_at hl 3 rfl) ?_
          refine va_get (D := D) (ci := 0) (v := .ref h2) (C := RX0) (T := TX0) (N := 4) hx hb hts in_X2_failureAt_0 hown hK hP 3 rfl rfl 3 (by decide) (hts (.fieldLink RX2 32 "HoseSpans$Line" "settings" "[I") (List.mem_of_getElem? (i := 1) (by decide +kernel))) (fun _ h9 => h9) rfl dX2_failureAt_74 ?_
          refine lv_iconst (v := 2) hx hb dX2_failureAt_77 (by decide) ?_
          refine va_iald hx hb hK hP 5 0 rfl rfl (vp_in_nI (n := 2) (by decide) (by decide)) dX2_failureAt_78 ?_
          refine e_n (y := G 2) (congrArg G (by decide)) ?_
          refine lv_icmp_ge (tgt := 86) hx hb dX2_failureAt_79 (by decide) (fun c_10 => ?_) (fun c_10 => ?_)
          · have c_10 := Int32.not_lt.mpr c_10
            refine lv_iconst (v := 0) hx hb dX2_failureAt_86 (by decide) ?_
            refine e_i (u := ()) hx hb hr hlocks hP hD hS dX2_failureAt_87 ?_ ?_
            · rfl
            · first | exact (fAt_5 hq (by assumption) (by assumption)).symm | exact (fAt_0 hq (by assumption) (by assumption)).symm
          · have c_10 := Int32.not_le.mp c_10
            refine lv_iconst (v := 5) hx hb dX2_failureAt_82 (by decide) ?_
            refine lv_goto (tgt := 87) hx hb dX2_failureAt_83 (by decide) ?_
            refine e_i (u := ()) hx hb hr hlocks hP hD hS dX2_failureAt_87 ?_ ?_
            · rfl
            · first | exact (fAt_5 hq (by assumption) (by assumption)).symm | exact (fAt_0 hq (by assumption) (by assumption)).symm
        · have c_9 := Int32.not_le.mp c_9
          have c_9 : i < n := (nI_ltI (by omega) (by omega)).mp c_9
          refine lv_aload_n hx hb dX2_failureAt_61 rfl (lv_at hl 3 rfl) ?_
          refine lv_iload_n hx hb dX2_failureAt_62 rfl (lv_at hl 4 rfl) ?_
          refine lv_iload hx hb dX2_failureAt_63 (lv_at hl 0 rfl) ?_
          refine lv_iload hx hb dX2_failureAt_65 (lv_at hl 6 rfl) ?_
          refine k_i (va_runV (As := [.int (nI i), .int (afterP G (S.testBit i) p), .int q]) (rest := []) ⟨hx, hb, hml, hown, hts⟩ (c_X0_failureOf l D cI cB cO H.size h0 h1 h2 n (nI S) F i (afterP G (S.testBit i) p) q (by first | assumption | omega | exact okFacts.sort (by assumption) (by omega)) (by first | assumption | omega | exact okFacts.sort (by assumption) (by omega))) (cwV 3 hts gX2_failureAt_X0_failureOf rfl rfl rfl (by decide +kernel) ⟨Nat.le_of_ble_eq_true rfl, Nat.le_of_ble_eq_true rfl⟩) (preV_of hK hP hD hS hA hSt [3, 4] (by decide) rfl 3 (ci := 0) rfl rfl) rfl rfl hl.1 rfl (lv_room (Nat.le_of_ble_eq_true rfl)) dX2_failureAt_67 ⟨Nat.le_of_ble_eq_true rfl, Nat.le_of_ble_eq_true rfl⟩) hP hD hS hA [3, 4] [0, 1, 2, 5] [0, 1, 2, 4, 5, 3] [(w0, .inr (2, [.int wh, .int how, .ref w1, .ref w2])), (w1, .inl (cI, 11, .inl a)), (w2, .inl (cI, 11, .inl (bAt G (S.testBit i) i p b))), (h2, .inl (cI, 6, .inl G))] (fun (u_11 : Unit) => [(w0, .inr (2, [.int wh, .int how, .ref w1, .ref w2])), (w1, .inl (cI, 11, .inl a)), (w2, .inl (cI, 11, .inl (bAt G (S.testBit i) i p b))), (h0, .inr (0, [.int (nI n), .int (nI S), .ref h1, .ref h2])), (h1, .inl (cI, 50, .inl F)), (h2, .inl (cI, 6, .inl G))]) rfl rfl (by decide) (by decide) (by decide) (fun _ => rfl) (fun r_11 u_11 H locs q_11 hP hD hS => ?_)
          obtain rfl : r_11 = failF F i (afterP G (S.testBit i) p) q := q_11
          refine e_i (u := ()) hx hb hr hlocks hP hD hS dX2_failureAt_70 ?_ ?_
          · rfl
          · exact (fAt_s hq (by assumption)).symm
    · have c_7 := Int32.not_le.mp c_7
      rw [show b = (bAt G (S.testBit i) i p b) from (bAt_2 hbit (by assumption)).symm] at hP hD
      have hP : va_P D vwCl [(w0, .inr (2, [.int wh, .int how, .ref w1, .ref w2])), (w1, .inl (cI, 11, .inl a)), (w2, .inl (cI, 11, .inl (bAt G (S.testBit i) i p b))), (h0, .inr (0, [.int (nI n), .int (nI S), .ref h1, .ref h2])), (h1, .inl (cI, 50, .inl F)), (h2, .inl (cI, 6, .inl G))] H := hP
      have hD : va_D AM [(w0, .inr (2, [.int wh, .int how, .ref w1, .ref w2])), (w1, .inl (cI, 11, .inl a)), (w2, .inl (cI, 11, .inl (bAt G (S.testBit i) i p b))), (h0, .inr (0, [.int (nI n), .int (nI S), .ref h1, .ref h2])), (h1, .inl (cI, 50, .inl F)), (h2, .inl (cI, 6, .inl G))] := hD
      refine lv_iconst (v := 2) hx hb dX2_failureAt_22 (by decide) ?_
      refine e_i (u := ()) hx hb hr hlocks hP hD hS dX2_failureAt_23 ?_ ?_
      · rfl
      · exact (fAt_2 hbit (by assumption)).symm
theorem in_X2_follow_0 : ∀ w ∈ wsX00, w ∈ wsX2_follow := fun _ h => List.mem_cons_of_mem _ (List.mem_append_right _ h)
theorem in_X2_follow_2 : ∀ w ∈ wsX20, w ∈ wsX2_follow := fun _ h => List.mem_cons_of_mem _ (List.mem_append_left _ (List.mem_append_right _ h))
set_option maxHeartbeats 4000000 in
set_option maxRecDepth 100000 in
theorem c_X2_follow (l : Launch) (D : va_G) (cI cB cO : ClassId) (sz : Nat) (w0 w1 w2 : Nat) (wh how : Int32) (a b : Nat → Int32) (h0 h1 h2 n S : Nat) (F G : Nat → Int32) (q : Int32) (hn : n ≤ 10) (hf : okFacts F) : CV l yX2_follow wsX2_follow ({ frames := 4, cells := 0, slots := 0, locals := 94 } : Room) D (tyL cI cB cO) [.ref w0, .ref h0, .int q] [(w0, .inr (2, [.int wh, .int how, .ref w1, .ref w2])), (w1, .inl (cI, 11, .inl a)), (w2, .inl (cI, 11, .inl b)), (h0, .inr (0, [.int (nI n), .int (nI S), .ref h1, .ref h2])), (h1, .inl (cI, 50, .inl F)), (h2, .inl (cI, 6, .inl G))] sz (fun (u : Rs) => u = runF F G n q S) (fun (u : Rs) => [(w0, .inr (2, [.int u.1, .int u.2.1, .ref w1, .ref w2])), (w1, .inl (cI, 11, .inl u.2.2.1)), (w2, .inl (cI, 11, .inl u.2.2.2)), (h0, .inr (0, [.int (nI n), .int (nI S), .ref h1, .ref h2])), (h1, .inl (cI, 50, .inl F)), (h2, .inl (cI, 6, .inl G))]) 0 0 := by
  refine ct_of (cc := cX2_follow) (maxL := 5) (ret := none) (own := RX2) (Qc := QV D (fun (u : Rs) => u = runF F G n q S) (fun (u : Rs) => [(w0, .inr (2, [.int u.1, .int u.2.1, .ref w1, .ref w2])), (w1, .inl (cI, 11, .inl u.2.2.1)), (w2, .inl (cI, 11, .inl u.2.2.2)), (h0, .inr (0, [.int (nI n), .int (nI S), .ref h1, .ref h2])), (h1, .inl (cI, 50, .inl F)), (h2, .inl (cI, 6, .inl G))])) (by decide) rfl rfl (Nat.le_of_ble_eq_true rfl) ?_
  intro pM eM sM mM below meth cM AM ls H locs hx hb hr hts hown hlocks hml hin hK hP hD hS hA hSt hl
  have hl : lv_has ls 5 [(0, .ref w0), (1, .ref h0), (2, .int q)] := hl
  refine lv_aload_n hx hb dX2_follow_0 rfl (lv_at hl 0 rfl) ?_
  refine va_get (D := D) (ci := 2) (v := .ref w1) (C := RX2) (T := TX2) (N := 4) hx hb hts in_X2_follow_2 hown hK hP 0 rfl rfl 2 (by decide) (hts (.fieldLink RX2 19 "HoseSpans$Run" "in" "[I") (List.mem_of_getElem? (i := 1) (by decide +kernel))) (fun _ h9 => h9) rfl dX2_follow_1 ?_
  refine lv_ldc (v := -1000001) hx hb hown (hts (.constant RX2 9 (-1000001)) (List.mem_of_getElem? (i := 2) (by decide +kernel))) dX2_follow_4 ?_
  refine k_v (va_runS (As := [.ref w1, .int (-1000001)]) (rest := []) ⟨hx, hb, hml, hown, hts⟩ (c_J7_fill_53178 l D cI cB cO H.size w1 11 a (-1000001) (by first | assumption | omega | exact okFacts.sort (by assumption) (by omega))) (va_cwS 2 hts gX2_follow_J7_fill_53178 rfl rfl rfl (by decide +kernel) ⟨Nat.le_of_ble_eq_true rfl, Nat.le_of_ble_eq_true rfl⟩) (preS_of hK hP hD hS hA hSt [1] (by decide) rfl) rfl rfl hl.1 rfl (lv_room (Nat.le_of_ble_eq_true rfl)) dX2_follow_6 ⟨Nat.le_of_ble_eq_true rfl, Nat.le_of_ble_eq_true rfl⟩) hP hD hS hA [1] [0, 2, 3, 4, 5] [0, 5, 1, 2, 3, 4] [(w0, .inr (2, [.int wh, .int how, .ref w1, .ref w2])), (w2, .inl (cI, 11, .inl b)), (h0, .inr (0, [.int (nI n), .int (nI S), .ref h1, .ref h2])), (h1, .inl (cI, 50, .inl F)), (h2, .inl (cI, 6, .inl G))] (fun (u_1 : Unit) => [(w0, .inr (2, [.int wh, .int how, .ref w1, .ref w2])), (w1, .inl (cI, 11, .inl (fun _ => (-1000001)))), (w2, .inl (cI, 11, .inl b)), (h0, .inr (0, [.int (nI n), .int (nI S), .ref h1, .ref h2])), (h1, .inl (cI, 50, .inl F)), (h2, .inl (cI, 6, .inl G))]) rfl rfl (by decide) (by decide) (by decide) (fun _ => rfl) (fun u_1 H locs q_1 hP hD hS => ?_)
  refine lv_aload_n hx hb dX2_follow_9 rfl (lv_at hl 0 rfl) ?_
  refine va_get (D := D) (ci := 2) (v := .ref w2) (C := RX2) (T := TX2) (N := 4) hx hb hts in_X2_follow_2 hown hK hP 0 rfl rfl 3 (by decide) (hts (.fieldLink RX2 23 "HoseSpans$Run" "behind" "[I") (List.mem_of_getElem? (i := 3) (by decide +kernel))) (fun _ h9 => h9) rfl dX2_follow_10 ?_
  refine lv_ldc (v := -1000001) hx hb hown (hts (.constant RX2 9 (-1000001)) (List.mem_of_getElem? (i := 2) (by decide +kernel))) dX2_follow_13 ?_
  refine k_v (va_runS (As := [.ref w2, .int (-1000001)]) (rest := []) ⟨hx, hb, hml, hown, hts⟩ (c_J7_fill_53178 l D cI cB cO H.size w2 11 b (-1000001) (by first | assumption | omega | exact okFacts.sort (by assumption) (by omega))) (va_cwS 2 hts gX2_follow_J7_fill_53178 rfl rfl rfl (by decide +kernel) ⟨Nat.le_of_ble_eq_true rfl, Nat.le_of_ble_eq_true rfl⟩) (preS_of hK hP hD hS hA hSt [2] (by decide) rfl) rfl rfl hl.1 rfl (lv_room (Nat.le_of_ble_eq_true rfl)) dX2_follow_15 ⟨Nat.le_of_ble_eq_true rfl, Nat.le_of_ble_eq_true rfl⟩) hP hD hS hA [2] [0, 1, 3, 4, 5] [0, 1, 5, 2, 3, 4] [(w0, .inr (2, [.int wh, .int how, .ref w1, .ref w2])), (w1, .inl (cI, 11, .inl (fun _ => (-1000001)))), (h0, .inr (0, [.int (nI n), .int (nI S), .ref h1, .ref h2])), (h1, .inl (cI, 50, .inl F)), (h2, .inl (cI, 6, .inl G))] (fun (u_2 : Unit) => [(w0, .inr (2, [.int wh, .int how, .ref w1, .ref w2])), (w1, .inl (cI, 11, .inl (fun _ => (-1000001)))), (w2, .inl (cI, 11, .inl (fun _ => (-1000001)))), (h0, .inr (0, [.int (nI n), .int (nI S), .ref h1, .ref h2])), (h1, .inl (cI, 50, .inl F)), (h2, .inl (cI, 6, .inl G))]) rfl rfl (by decide) (by decide) (by decide) (fun _ => rfl) (fun u_2 H locs q_2 hP hD hS => ?_)
  refine lv_aload_n hx hb dX2_follow_18 rfl (lv_at hl 0 rfl) ?_
  refine lv_ldc (v := -1000001) hx hb hown (hts (.constant RX2 9 (-1000001)) (List.mem_of_getElem? (i := 2) (by decide +kernel))) dX2_follow_19 ?_
  refine va_put (D := D) (ci := 2) (v := .int (-1000001)) (ty := .int) (C := RX2) (T := TX2) (N := 4) hx hb hts in_X2_follow_2 tyX2 tyX2_ok nmX2 hown hK hP hD hS 0 rfl rfl 0 (by decide) (hts (.fieldLink RX2 10 "HoseSpans$Run" "where" "I") (List.mem_of_getElem? (i := 4) (by decide +kernel))) (fun _ h9 => h9) rfl (by decide +kernel) rfl rfl (Nat.le_of_ble_eq_true rfl) dX2_follow_21 (fun H locs hP hD hS => ?_)
  have hP : va_P D vwCl [(w0, .inr (2, [.int (-1000001), .int how, .ref w1, .ref w2])), (w1, .inl (cI, 11, .inl (fun _ => (-1000001)))), (w2, .inl (cI, 11, .inl (fun _ => (-1000001)))), (h0, .inr (0, [.int (nI n), .int (nI S), .ref h1, .ref h2])), (h1, .inl (cI, 50, .inl F)), (h2, .inl (cI, 6, .inl G))] H := hP
  have hD : va_D AM [(w0, .inr (2, [.int (-1000001), .int how, .ref w1, .ref w2])), (w1, .inl (cI, 11, .inl (fun _ => (-1000001)))), (w2, .inl (cI, 11, .inl (fun _ => (-1000001)))), (h0, .inr (0, [.int (nI n), .int (nI S), .ref h1, .ref h2])), (h1, .inl (cI, 50, .inl F)), (h2, .inl (cI, 6, .inl G))] := hD
  refine lv_aload_n hx hb dX2_follow_24 rfl (lv_at hl 0 rfl) ?_
  refine lv_iconst (v := 0) hx hb dX2_follow_25 (by decide) ?_
  refine va_put (D := D) (ci := 2) (v := .int 0) (ty := .int) (C := RX2) (T := TX2) (N := 4) hx hb hts in_X2_follow_2 tyX2 tyX2_ok nmX2 hown hK hP hD hS 0 rfl rfl 1 (by decide) (hts (.fieldLink RX2 16 "HoseSpans$Run" "how" "I") (List.mem_of_getElem? (i := 5) (by decide +kernel))) (fun _ h9 => h9) rfl (by decide +kernel) rfl rfl (Nat.le_of_ble_eq_true rfl) dX2_follow_26 (fun H locs hP hD hS => ?_)
  have hP : va_P D vwCl [(w0, .inr (2, [.int (-1000001), .int 0, .ref w1, .ref w2])), (w1, .inl (cI, 11, .inl (fun _ => (-1000001)))), (w2, .inl (cI, 11, .inl (fun _ => (-1000001)))), (h0, .inr (0, [.int (nI n), .int (nI S), .ref h1, .ref h2])), (h1, .inl (cI, 50, .inl F)), (h2, .inl (cI, 6, .inl G))] H := hP
  have hD : va_D AM [(w0, .inr (2, [.int (-1000001), .int 0, .ref w1, .ref w2])), (w1, .inl (cI, 11, .inl (fun _ => (-1000001)))), (w2, .inl (cI, 11, .inl (fun _ => (-1000001)))), (h0, .inr (0, [.int (nI n), .int (nI S), .ref h1, .ref h2])), (h1, .inl (cI, 50, .inl F)), (h2, .inl (cI, 6, .inl G))] := hD
  refine lv_aload_n hx hb dX2_follow_29 rfl (lv_at hl 1 rfl) ?_
  refine va_get (D := D) (ci := 0) (v := .ref h2) (C := RX0) (T := TX0) (N := 4) hx hb hts in_X2_follow_0 hown hK hP 3 rfl rfl 3 (by decide) (hts (.fieldLink RX2 32 "HoseSpans$Line" "settings" "[I") (List.mem_of_getElem? (i := 6) (by decide +kernel))) (fun _ h9 => h9) rfl dX2_follow_30 ?_
  refine lv_iconst (v := 1) hx hb dX2_follow_33 (by decide) ?_
  refine va_iald hx hb hK hP 5 0 rfl rfl (vp_in_nI (n := 1) (by decide) (by decide)) dX2_follow_34 ?_
  refine e_n (y := G 1) (congrArg G (by decide)) ?_
  refine lv_istore_n (lv' := [(3, .int (G 1)), (0, .ref w0), (1, .ref h0), (2, .int q)]) hx hb dX2_follow_35 rfl hl (by decide) rfl (fun ls hl => ?_)
  refine lv_iconst (v := 0) hx hb dX2_follow_36 (by decide) ?_
  refine lv_istore (lv' := [(4, .int 0), (3, .int (G 1)), (0, .ref w0), (1, .ref h0), (2, .int q)]) hx hb dX2_follow_37 hl (by decide) rfl (fun ls hl => ?_)
  have lp_3 : ∀ (nn : Nat) (i : Nat) (pp xh xo : Int32) (ya yb : Nat → Int32), (i ≤ n + 1) → (runI F G n q S (runF F G n q S) i pp xh xo ya yb) → (n + 1 - i) < nn → ∀ (H : Heap) (locs : List Loc), va_P D vwCl [(w0, .inr (2, [.int xh, .int xo, .ref w1, .ref w2])), (w1, .inl (cI, 11, .inl ya)), (w2, .inl (cI, 11, .inl yb)), (h0, .inr (0, [.int (nI n), .int (nI S), .ref h1, .ref h2])), (h1, .inl (cI, 50, .inl F)), (h2, .inl (cI, 6, .inl G))] H → va_D AM [(w0, .inr (2, [.int xh, .int xo, .ref w1, .ref w2])), (w1, .inl (cI, 11, .inl ya)), (w2, .inl (cI, 11, .inl yb)), (h0, .inr (0, [.int (nI n), .int (nI S), .ref h1, .ref h2])), (h1, .inl (cI, 50, .inl F)), (h2, .inl (cI, 6, .inl G))] → va_S AM sM.heap H locs → ∀ (ls : Array Slot), lv_has ls 5 [(0, .ref w0), (1, .ref h0), (2, .int q), (3, .int pp), (4, .int (nI i))] → W pM l eM ({ frames := 4, cells := 0, slots := 0, locals := 94 } : Room) sM mM ([.ref w0, .ref h0, .int q] : List Value).toArray below meth cM H locs 0 0 (MQ below (QV D (fun (u : Rs) => u = runF F G n q S) (fun (u : Rs) => [(w0, .inr (2, [.int u.1, .int u.2.1, .ref w1, .ref w2])), (w1, .inl (cI, 11, .inl u.2.2.1)), (w2, .inl (cI, 11, .inl u.2.2.2)), (h0, .inr (0, [.int (nI n), .int (nI S), .ref h1, .ref h2])), (h1, .inl (cI, 50, .inl F)), (h2, .inl (cI, 6, .inl G))]) AM) ([.ref w0, .ref h0, .int q] : List Value).toArray sM 0 0 AM) (F0 mM 39 ls []) := by
    intro nn
    induction nn with
    | zero =>
      intro i pp xh xo ya yb hi hI hm
      exact absurd hm (Nat.not_lt_zero _)
    | succ nn ih_4 =>
      intro i pp xh xo ya yb hi hI hm H locs hP hD hS ls hl
      refine lv_iload hx hb dX2_follow_39 (lv_at hl 4 rfl) ?_
      refine lv_aload_n hx hb dX2_follow_41 rfl (lv_at hl 1 rfl) ?_
      refine va_get (D := D) (ci := 0) (v := .int (nI n)) (C := RX0) (T := TX0) (N := 4) hx hb hts in_X2_follow_0 hown hK hP 3 rfl rfl 0 (by decide) (hts (.fieldLink RX2 37 "HoseSpans$Line" "spans" "I") (List.mem_of_getElem? (i := 7) (by decide +kernel))) (fun _ h9 => h9) rfl dX2_follow_42 ?_
      refine lv_icmp_gt (tgt := 123) hx hb dX2_follow_45 (by decide) (fun c_5 => ?_) (fun c_5 => ?_)
      · have c_5 : n < i := (nI_ltI (by omega) (by omega)).mp c_5
        refine e_v (u := (xh, xo, ya, yb)) hx hb hr hlocks hP hD hS dX2_follow_123 ?_ ?_
        · rfl
        · first | exact hI.out (by assumption) | exact hI.stop (by assumption)
      · have c_5 : i ≤ n := by have h := mt (nI_ltI (a := n) (b := i) (by omega) (by omega)).mpr c_5; omega
        refine lv_aload_n hx hb dX2_follow_48 rfl (lv_at hl 0 rfl) ?_
        refine va_get (D := D) (ci := 2) (v := .int xo) (C := RX2) (T := TX2) (N := 4) hx hb hts in_X2_follow_2 hown hK hP 0 rfl rfl 1 (by decide) (hts (.fieldLink RX2 16 "HoseSpans$Run" "how" "I") (List.mem_of_getElem? (i := 5) (by decide +kernel))) (fun _ h9 => h9) rfl dX2_follow_49 ?_
        refine lv_if_ne (tgt := 123) hx hb dX2_follow_52 (by decide) (fun c_6 => ?_) (fun c_6 => ?_)
        · refine e_v (u := (xh, xo, ya, yb)) hx hb hr hlocks hP hD hS dX2_follow_123 ?_ ?_
          · rfl
          · first | exact hI.out (by assumption) | exact hI.stop (by assumption)
        · have hI := hI.go c_6
          refine lv_aload_n hx hb dX2_follow_55 rfl (lv_at hl 0 rfl) ?_
          refine va_get (D := D) (ci := 2) (v := .ref w1) (C := RX2) (T := TX2) (N := 4) hx hb hts in_X2_follow_2 hown hK hP 0 rfl rfl 2 (by decide) (hts (.fieldLink RX2 19 "HoseSpans$Run" "in" "[I") (List.mem_of_getElem? (i := 1) (by decide +kernel))) (fun _ h9 => h9) rfl dX2_follow_56 ?_
          refine lv_iload hx hb dX2_follow_59 (lv_at hl 4 rfl) ?_
          refine lv_iload_n hx hb dX2_follow_61 rfl (lv_at hl 3 rfl) ?_
          refine va_iast hx hb hK hP hD hS 1 0 rfl rfl (vp_in_nI (by omega) (by decide)) dX2_follow_62 (fun H locs hP hD hS => ?_)
          rw [show Int32.toNatClampNeg (nI i) = i from (nI_clamp (by omega))] at hP hD
          have hP : va_P D vwCl [(w0, .inr (2, [.int xh, .int xo, .ref w1, .ref w2])), (w1, .inl (cI, 11, .inl (upd ya i pp))), (w2, .inl (cI, 11, .inl yb)), (h0, .inr (0, [.int (nI n), .int (nI S), .ref h1, .ref h2])), (h1, .inl (cI, 50, .inl F)), (h2, .inl (cI, 6, .inl G))] H := hP
          have hD : va_D AM [(w0, .inr (2, [.int xh, .int xo, .ref w1, .ref w2])), (w1, .inl (cI, 11, .inl (upd ya i pp))), (w2, .inl (cI, 11, .inl yb)), (h0, .inr (0, [.int (nI n), .int (nI S), .ref h1, .ref h2])), (h1, .inl (cI, 50, .inl F)), (h2, .inl (cI, 6, .inl G))] := hD
          refine lv_aload_n hx hb dX2_follow_63 rfl (lv_at hl 0 rfl) ?_
          refine lv_aload_n hx hb dX2_follow_64 rfl (lv_at hl 0 rfl) ?_
          refine lv_aload_n hx hb dX2_follow_65 rfl (lv_at hl 1 rfl) ?_
          refine lv_iload hx hb dX2_follow_66 (lv_at hl 4 rfl) ?_
          refine lv_iload_n hx hb dX2_follow_68 rfl (lv_at hl 3 rfl) ?_
          refine lv_iload_n hx hb dX2_follow_69 rfl (lv_at hl 2 rfl) ?_
          refine k_i (va_runV (As := [.ref h0, .int (nI i), .int pp, .int q]) (rest := [.ref w0]) ⟨hx, hb, hml, hown, hts⟩ (c_X2_failureAt l D cI cB cO H.size w0 w1 w2 xh xo (upd ya i pp) yb h0 h1 h2 n S F G i pp q (by first | assumption | omega | exact okFacts.sort (by assumption) (by omega)) (by first | assumption | omega | exact okFacts.sort (by assumption) (by omega)) (by first | assumption | omega | exact okFacts.sort (by assumption) (by omega))) (cwV 4 hts gX2_follow_X2_failureAt rfl rfl rfl (by decide +kernel) ⟨Nat.le_of_ble_eq_true rfl, Nat.le_of_ble_eq_true rfl⟩) (preV_of hK hP hD hS hA hSt [0, 1, 2, 3, 4, 5] (by decide) rfl 0 (ci := 2) rfl rfl) rfl rfl hl.1 rfl (lv_room (Nat.le_of_ble_eq_true rfl)) dX2_follow_70 ⟨Nat.le_of_ble_eq_true rfl, Nat.le_of_ble_eq_true rfl⟩) hP hD hS hA [0, 1, 2, 3, 4, 5] [] [0, 1, 2, 3, 4, 5] [] (fun (u_7 : Unit) => [(w0, .inr (2, [.int xh, .int xo, .ref w1, .ref w2])), (w1, .inl (cI, 11, .inl (upd ya i pp))), (w2, .inl (cI, 11, .inl (bAt G (S.testBit i) i pp yb))), (h0, .inr (0, [.int (nI n), .int (nI S), .ref h1, .ref h2])), (h1, .inl (cI, 50, .inl F)), (h2, .inl (cI, 6, .inl G))]) rfl rfl (by decide) (by decide) (by decide) (fun _ => rfl) (fun r_7 u_7 H locs q_7 hP hD hS => ?_)
          obtain rfl : r_7 = fAt F G n (S.testBit i) i pp q := q_7
          refine va_put (D := D) (ci := 2) (v := .int (fAt F G n (S.testBit i) i pp q)) (ty := .int) (C := RX2) (T := TX2) (N := 4) hx hb hts in_X2_follow_2 tyX2 tyX2_ok nmX2 hown hK hP hD hS 0 rfl rfl 1 (by decide) (hts (.fieldLink RX2 16 "HoseSpans$Run" "how" "I") (List.mem_of_getElem? (i := 5) (by decide +kernel))) (fun _ h9 => h9) rfl (by decide +kernel) rfl rfl (Nat.le_of_ble_eq_true rfl) dX2_follow_73 (fun H locs hP hD hS => ?_)
          have hP : va_P D vwCl [(w0, .inr (2, [.int xh, .int (fAt F G n (S.testBit i) i pp q), .ref w1, .ref w2])), (w1, .inl (cI, 11, .inl (upd ya i pp))), (w2, .inl (cI, 11, .inl (bAt G (S.testBit i) i pp yb))), (h0, .inr (0, [.int (nI n), .int (nI S), .ref h1, .ref h2])), (h1, .inl (cI, 50, .inl F)), (h2, .inl (cI, 6, .inl G))] H := hP
          have hD : va_D AM [(w0, .inr (2, [.int xh, .int (fAt F G n (S.testBit i) i pp q), .ref w1, .ref w2])), (w1, .inl (cI, 11, .inl (upd ya i pp))), (w2, .inl (cI, 11, .inl (bAt G (S.testBit i) i pp yb))), (h0, .inr (0, [.int (nI n), .int (nI S), .ref h1, .ref h2])), (h1, .inl (cI, 50, .inl F)), (h2, .inl (cI, 6, .inl G))] := hD
          refine lv_aload_n hx hb dX2_follow_76 rfl (lv_at hl 0 rfl) ?_
          refine va_get (D := D) (ci := 2) (v := .int (fAt F G n (S.testBit i) i pp q)) (C := RX2) (T := TX2) (N := 4) hx hb hts in_X2_follow_2 hown hK hP 0 rfl rfl 1 (by decide) (hts (.fieldLink RX2 16 "HoseSpans$Run" "how" "I") (List.mem_of_getElem? (i := 5) (by decide +kernel))) (fun _ h9 => h9) rfl dX2_follow_77 ?_
          refine lv_if_eq (tgt := 92) hx hb dX2_follow_80 (by decide) (fun c_8 => ?_) (fun c_8 => ?_)
          · refine lv_iload hx hb dX2_follow_92 (lv_at hl 4 rfl) ?_
            refine lv_aload_n hx hb dX2_follow_94 rfl (lv_at hl 1 rfl) ?_
            refine va_get (D := D) (ci := 0) (v := .int (nI n)) (C := RX0) (T := TX0) (N := 4) hx hb hts in_X2_follow_0 hown hK hP 3 rfl rfl 0 (by decide) (hts (.fieldLink RX2 37 "HoseSpans$Line" "spans" "I") (List.mem_of_getElem? (i := 7) (by decide +kernel))) (fun _ h9 => h9) rfl dX2_follow_95 ?_
            refine lv_icmp_ge (tgt := 117) hx hb dX2_follow_98 (by decide) (fun c_9 => ?_) (fun c_9 => ?_)
            · have c_9 := Int32.not_lt.mpr c_9
              have c_9 : ¬ i < n := fun h => c_9 ((nI_ltI (by omega) (by omega)).mpr h)
              refine lv_iinc (v := nI (i + 1)) (lv' := [(4, .int (nI (i + 1))), (0, .ref w0), (1, .ref h0), (2, .int q), (3, .int pp)]) hx hb dX2_follow_117 hl (k := 4) rfl (nI_add i 1) (by decide) rfl (fun ls hl => ?_)
              refine lv_goto (tgt := 39) hx hb dX2_follow_120 (by decide) ?_
              have hl9 : lv_has ls 5 [(0, .ref w0), (1, .ref h0), (2, .int q), (3, .int pp), (4, .int (nI (i + 1)))] := lv_sub hl [1, 2, 3, 4, 0] rfl
              exact ih_4 (i + 1) pp xh (fAt F G n (S.testBit i) i pp q) (upd ya i pp) (bAt G (S.testBit i) i pp yb) (by first | assumption | omega | exact okFacts.sort (by assumption) (by omega)) (by first | exact runI.fail hI.2 (by omega) (by assumption) | exact runI.next hI.2 hI.1 (by omega) (by assumption) (fun _ => rfl) | exact runI.next hI.2 hI.1 (by omega) (by assumption) (fun h => absurd h (by assumption))) (by omega) H locs hP hD hS ls hl9
            · have c_9 := Int32.not_le.mp c_9
              have c_9 : i < n := (nI_ltI (by omega) (by omega)).mp c_9
              refine lv_aload_n hx hb dX2_follow_101 rfl (lv_at hl 0 rfl) ?_
              refine va_get (D := D) (ci := 2) (v := .ref w2) (C := RX2) (T := TX2) (N := 4) hx hb hts in_X2_follow_2 hown hK hP 0 rfl rfl 3 (by decide) (hts (.fieldLink RX2 23 "HoseSpans$Run" "behind" "[I") (List.mem_of_getElem? (i := 3) (by decide +kernel))) (fun _ h9 => h9) rfl dX2_follow_102 ?_
              refine lv_iload hx hb dX2_follow_105 (lv_at hl 4 rfl) ?_
              refine va_iald hx hb hK hP 2 0 rfl rfl (vp_in_nI (by omega) (by decide)) dX2_follow_107 ?_
              refine e_n (y := (bAt G (S.testBit i) i pp yb) i) (congrArg (bAt G (S.testBit i) i pp yb) (nI_clamp (by omega))) ?_
              refine e_n (y := afterP G (S.testBit i) pp) (bAt_get (by assumption)) ?_
              refine lv_aload_n hx hb dX2_follow_108 rfl (lv_at hl 1 rfl) ?_
              refine lv_iload hx hb dX2_follow_109 (lv_at hl 4 rfl) ?_
              refine lv_iload_n hx hb dX2_follow_111 rfl (lv_at hl 2 rfl) ?_
              refine k_i (va_runV (As := [.int (nI i), .int q]) (rest := [.int (afterP G (S.testBit i) pp)]) ⟨hx, hb, hml, hown, hts⟩ (c_X0_lossBy l D cI cB cO H.size h0 h1 h2 n (nI S) F i q (by first | assumption | omega | exact okFacts.sort (by assumption) (by omega)) (by first | assumption | omega | exact okFacts.sort (by assumption) (by omega))) (cwV 2 hts gX2_follow_X0_lossBy rfl rfl rfl (by decide +kernel) ⟨Nat.le_of_ble_eq_true rfl, Nat.le_of_ble_eq_true rfl⟩) (preV_of hK hP hD hS hA hSt [3, 4] (by decide) rfl 3 (ci := 0) rfl rfl) rfl rfl hl.1 rfl (lv_room (Nat.le_of_ble_eq_true rfl)) dX2_follow_112 ⟨Nat.le_of_ble_eq_true rfl, Nat.le_of_ble_eq_true rfl⟩) hP hD hS hA [3, 4] [0, 1, 2, 5] [0, 1, 2, 4, 5, 3] [(w0, .inr (2, [.int xh, .int (fAt F G n (S.testBit i) i pp q), .ref w1, .ref w2])), (w1, .inl (cI, 11, .inl (upd ya i pp))), (w2, .inl (cI, 11, .inl (bAt G (S.testBit i) i pp yb))), (h2, .inl (cI, 6, .inl G))] (fun (u_10 : Unit) => [(w0, .inr (2, [.int xh, .int (fAt F G n (S.testBit i) i pp q), .ref w1, .ref w2])), (w1, .inl (cI, 11, .inl (upd ya i pp))), (w2, .inl (cI, 11, .inl (bAt G (S.testBit i) i pp yb))), (h0, .inr (0, [.int (nI n), .int (nI S), .ref h1, .ref h2])), (h1, .inl (cI, 50, .inl F)), (h2, .inl (cI, 6, .inl G))]) rfl rfl (by decide) (by decide) (by decide) (fun _ => rfl) (fun r_10 u_10 H locs q_10 hP hD hS => ?_)
              obtain rfl : r_10 = lossF F i q := q_10
              refine lv_isub hx hb dX2_follow_115 ?_
              refine lv_istore_n (lv' := [(3, .int ((afterP G (S.testBit i) pp) - (lossF F i q))), (0, .ref w0), (1, .ref h0), (2, .int q), (4, .int (nI i))]) hx hb dX2_follow_116 rfl hl (by decide) rfl (fun ls hl => ?_)
              refine lv_iinc (v := nI (i + 1)) (lv' := [(4, .int (nI (i + 1))), (3, .int ((afterP G (S.testBit i) pp) - (lossF F i q))), (0, .ref w0), (1, .ref h0), (2, .int q)]) hx hb dX2_follow_117 hl (k := 4) rfl (nI_add i 1) (by decide) rfl (fun ls hl => ?_)
              refine lv_goto (tgt := 39) hx hb dX2_follow_120 (by decide) ?_
              have hl9 : lv_has ls 5 [(0, .ref w0), (1, .ref h0), (2, .int q), (3, .int ((afterP G (S.testBit i) pp) - (lossF F i q))), (4, .int (nI (i + 1)))] := lv_sub hl [2, 3, 4, 1, 0] rfl
              exact ih_4 (i + 1) ((afterP G (S.testBit i) pp) - (lossF F i q)) xh (fAt F G n (S.testBit i) i pp q) (upd ya i pp) (bAt G (S.testBit i) i pp yb) (by first | assumption | omega | exact okFacts.sort (by assumption) (by omega)) (by first | exact runI.fail hI.2 (by omega) (by assumption) | exact runI.next hI.2 hI.1 (by omega) (by assumption) (fun _ => rfl) | exact runI.next hI.2 hI.1 (by omega) (by assumption) (fun h => absurd h (by assumption))) (by omega) H locs hP hD hS ls hl9
          · refine lv_aload_n hx hb dX2_follow_83 rfl (lv_at hl 0 rfl) ?_
            refine lv_iload hx hb dX2_follow_84 (lv_at hl 4 rfl) ?_
            refine va_put (D := D) (ci := 2) (v := .int (nI i)) (ty := .int) (C := RX2) (T := TX2) (N := 4) hx hb hts in_X2_follow_2 tyX2 tyX2_ok nmX2 hown hK hP hD hS 0 rfl rfl 0 (by decide) (hts (.fieldLink RX2 10 "HoseSpans$Run" "where" "I") (List.mem_of_getElem? (i := 4) (by decide +kernel))) (fun _ h9 => h9) rfl (by decide +kernel) rfl rfl (Nat.le_of_ble_eq_true rfl) dX2_follow_86 (fun H locs hP hD hS => ?_)
            have hP : va_P D vwCl [(w0, .inr (2, [.int (nI i), .int (fAt F G n (S.testBit i) i pp q), .ref w1, .ref w2])), (w1, .inl (cI, 11, .inl (upd ya i pp))), (w2, .inl (cI, 11, .inl (bAt G (S.testBit i) i pp yb))), (h0, .inr (0, [.int (nI n), .int (nI S), .ref h1, .ref h2])), (h1, .inl (cI, 50, .inl F)), (h2, .inl (cI, 6, .inl G))] H := hP
            have hD : va_D AM [(w0, .inr (2, [.int (nI i), .int (fAt F G n (S.testBit i) i pp q), .ref w1, .ref w2])), (w1, .inl (cI, 11, .inl (upd ya i pp))), (w2, .inl (cI, 11, .inl (bAt G (S.testBit i) i pp yb))), (h0, .inr (0, [.int (nI n), .int (nI S), .ref h1, .ref h2])), (h1, .inl (cI, 50, .inl F)), (h2, .inl (cI, 6, .inl G))] := hD
            refine lv_goto (tgt := 117) hx hb dX2_follow_89 (by decide) ?_
            refine lv_iinc (v := nI (i + 1)) (lv' := [(4, .int (nI (i + 1))), (0, .ref w0), (1, .ref h0), (2, .int q), (3, .int pp)]) hx hb dX2_follow_117 hl (k := 4) rfl (nI_add i 1) (by decide) rfl (fun ls hl => ?_)
            refine lv_goto (tgt := 39) hx hb dX2_follow_120 (by decide) ?_
            have hl9 : lv_has ls 5 [(0, .ref w0), (1, .ref h0), (2, .int q), (3, .int pp), (4, .int (nI (i + 1)))] := lv_sub hl [1, 2, 3, 4, 0] rfl
            exact ih_4 (i + 1) pp (nI i) (fAt F G n (S.testBit i) i pp q) (upd ya i pp) (bAt G (S.testBit i) i pp yb) (by first | assumption | omega | exact okFacts.sort (by assumption) (by omega)) (by first | exact runI.fail hI.2 (by omega) (by assumption) | exact runI.next hI.2 hI.1 (by omega) (by assumption) (fun _ => rfl) | exact runI.next hI.2 hI.1 (by omega) (by assumption) (fun h => absurd h (by assumption))) (by omega) H locs hP hD hS ls hl9
  have hl9 : lv_has ls 5 [(0, .ref w0), (1, .ref h0), (2, .int q), (3, .int (G 1)), (4, .int 0)] := lv_sub hl [2, 3, 4, 1, 0] rfl
  rw [show ([(0, .ref w0), (1, .ref h0), (2, .int q), (3, .int (G 1)), (4, .int 0)] : List (Nat × Value)) = [(0, .ref w0), (1, .ref h0), (2, .int q), (3, .int (G 1)), (4, .int (nI 0))] from rfl] at hl9
  exact lp_3 ((n + 1 - 0) + 1) 0 (G 1) (-1000001) 0 (fun _ => (-1000001)) (fun _ => (-1000001)) (by first | assumption | omega | exact okFacts.sort (by assumption) (by omega)) (by exact runI.start) (Nat.lt_succ_self _) H locs hP hD hS ls hl9
theorem in_X1_leadOn_0 : ∀ w ∈ wsX00, w ∈ wsX1_leadOn := fun _ h => List.mem_cons_of_mem _ (List.mem_append_left _ (List.mem_append_right _ h))
theorem in_X1_leadOn_1 : ∀ w ∈ wsX10, w ∈ wsX1_leadOn := fun _ h => List.mem_cons_of_mem _ (List.mem_append_right _ h)
set_option maxHeartbeats 4000000 in
set_option maxRecDepth 100000 in
theorem c_X1_leadOn (l : Launch) (D : va_G) (cI cB cO : ClassId) (sz : Nat) (s0 s1 : Nat) (B : Nat → Int32) (h0 h1 h2 n : Nat) (P : Int32) (F G : Nat → Int32) (q : Int32) (i0 : Nat) (p0 set : Int32) (hn : n ≤ 10) (hf : okFacts F) (hi0 : i0 ≤ n) : CV l yX1_leadOn wsX1_leadOn ({ frames := 3, cells := 0, slots := 0, locals := 68 } : Room) D (tyL cI cB cO) [.ref s0, .ref h0, .int q, .int (nI i0), .int p0, .int set] [(s0, .inr (1, [.ref s1])), (s1, .inl (cI, 11, .inl B)), (h0, .inr (0, [.int (nI n), .int P, .ref h1, .ref h2])), (h1, .inl (cI, 50, .inl F)), (h2, .inl (cI, 6, .inl G))] sz (fun (_ : Unit) => True) (fun (u : Unit) => [(s0, .inr (1, [.ref s1])), (s1, .inl (cI, 11, .inl (lead F G n q set (n - i0) i0 p0 B))), (h0, .inr (0, [.int (nI n), .int P, .ref h1, .ref h2])), (h1, .inl (cI, 50, .inl F)), (h2, .inl (cI, 6, .inl G))]) 0 0 := by
  refine ct_of (cc := cX1_leadOn) (maxL := 8) (ret := none) (own := RX1) (Qc := QV D (fun (_ : Unit) => True) (fun (u : Unit) => [(s0, .inr (1, [.ref s1])), (s1, .inl (cI, 11, .inl (lead F G n q set (n - i0) i0 p0 B))), (h0, .inr (0, [.int (nI n), .int P, .ref h1, .ref h2])), (h1, .inl (cI, 50, .inl F)), (h2, .inl (cI, 6, .inl G))])) (by decide) rfl rfl (Nat.le_of_ble_eq_true rfl) ?_
  intro pM eM sM mM below meth cM AM ls H locs hx hb hr hts hown hlocks hml hin hK hP hD hS hA hSt hl
  have hl : lv_has ls 8 [(0, .ref s0), (1, .ref h0), (2, .int q), (3, .int (nI i0)), (4, .int p0), (5, .int set)] := hl
  refine lv_iload hx hb dX1_leadOn_0 (lv_at hl 4 rfl) ?_
  refine lv_istore (lv' := [(6, .int p0), (0, .ref s0), (1, .ref h0), (2, .int q), (3, .int (nI i0)), (4, .int p0), (5, .int set)]) hx hb dX1_leadOn_2 hl (by decide) rfl (fun ls hl => ?_)
  refine lv_iload_n hx hb dX1_leadOn_4 rfl (lv_at hl 4 rfl) ?_
  refine lv_istore (lv' := [(7, .int (nI i0)), (6, .int p0), (0, .ref s0), (1, .ref h0), (2, .int q), (3, .int (nI i0)), (4, .int p0), (5, .int set)]) hx hb dX1_leadOn_5 hl (by decide) rfl (fun ls hl => ?_)
  have lp_1 : ∀ (nn : Nat) (i : Nat) (pp : Int32) (Y : Nat → Int32), (i ≤ n) → (lead F G n q set (n - i) i pp Y = lead F G n q set (n - i0) i0 p0 B) → (n - i) < nn → ∀ (H : Heap) (locs : List Loc), va_P D vwCl [(s0, .inr (1, [.ref s1])), (s1, .inl (cI, 11, .inl Y)), (h0, .inr (0, [.int (nI n), .int P, .ref h1, .ref h2])), (h1, .inl (cI, 50, .inl F)), (h2, .inl (cI, 6, .inl G))] H → va_D AM [(s0, .inr (1, [.ref s1])), (s1, .inl (cI, 11, .inl Y)), (h0, .inr (0, [.int (nI n), .int P, .ref h1, .ref h2])), (h1, .inl (cI, 50, .inl F)), (h2, .inl (cI, 6, .inl G))] → va_S AM sM.heap H locs → ∀ (ls : Array Slot), lv_has ls 8 [(0, .ref s0), (1, .ref h0), (2, .int q), (3, .int (nI i0)), (4, .int p0), (5, .int set), (6, .int pp), (7, .int (nI i))] → W pM l eM ({ frames := 3, cells := 0, slots := 0, locals := 68 } : Room) sM mM ([.ref s0, .ref h0, .int q, .int (nI i0), .int p0, .int set] : List Value).toArray below meth cM H locs 0 0 (MQ below (QV D (fun (_ : Unit) => True) (fun (u : Unit) => [(s0, .inr (1, [.ref s1])), (s1, .inl (cI, 11, .inl (lead F G n q set (n - i0) i0 p0 B))), (h0, .inr (0, [.int (nI n), .int P, .ref h1, .ref h2])), (h1, .inl (cI, 50, .inl F)), (h2, .inl (cI, 6, .inl G))]) AM) ([.ref s0, .ref h0, .int q, .int (nI i0), .int p0, .int set] : List Value).toArray sM 0 0 AM) (F0 mM 7 ls []) := by
    intro nn
    induction nn with
    | zero =>
      intro i pp Y hi hI hm
      exact absurd hm (Nat.not_lt_zero _)
    | succ nn ih_2 =>
      intro i pp Y hi hI hm H locs hP hD hS ls hl
      refine lv_iload hx hb dX1_leadOn_7 (lv_at hl 7 rfl) ?_
      refine lv_aload_n hx hb dX1_leadOn_9 rfl (lv_at hl 1 rfl) ?_
      refine va_get (D := D) (ci := 0) (v := .int (nI n)) (C := RX0) (T := TX0) (N := 4) hx hb hts in_X1_leadOn_0 hown hK hP 2 rfl rfl 0 (by decide) (hts (.fieldLink RX1 31 "HoseSpans$Line" "spans" "I") (List.mem_of_getElem? (i := 1) (by decide +kernel))) (fun _ h9 => h9) rfl dX1_leadOn_10 ?_
      refine lv_icmp_ge (tgt := 97) hx hb dX1_leadOn_13 (by decide) (fun c_3 => ?_) (fun c_3 => ?_)
      · have c_3 := Int32.not_lt.mpr c_3
        have c_3 : i = n := by have h := mt (nI_ltI (a := i) (b := n) (by omega) (by omega)).mpr c_3; omega
        refine lv_iload hx hb dX1_leadOn_97 (lv_at hl 6 rfl) ?_
        refine lv_aload_n hx hb dX1_leadOn_99 rfl (lv_at hl 1 rfl) ?_
        refine va_get (D := D) (ci := 0) (v := .ref h2) (C := RX0) (T := TX0) (N := 4) hx hb hts in_X1_leadOn_0 hown hK hP 2 rfl rfl 3 (by decide) (hts (.fieldLink RX1 22 "HoseSpans$Line" "settings" "[I") (List.mem_of_getElem? (i := 2) (by decide +kernel))) (fun _ h9 => h9) rfl dX1_leadOn_100 ?_
        refine lv_iconst (v := 2) hx hb dX1_leadOn_103 (by decide) ?_
        refine va_iald hx hb hK hP 4 0 rfl rfl (vp_in_nI (n := 2) (by decide) (by decide)) dX1_leadOn_104 ?_
        refine e_n (y := G 2) (congrArg G (by decide)) ?_
        refine lv_icmp_lt (tgt := 131) hx hb dX1_leadOn_105 (by decide) (fun c_4 => ?_) (fun c_4 => ?_)
        · rw [show Y = (lead F G n q set (n - i0) i0 p0 B) from (by first | exact lead_e1 hI (by assumption) (by assumption) | exact lead_e2 hI (by assumption) (by assumption))] at hP hD
          have hP : va_P D vwCl [(s0, .inr (1, [.ref s1])), (s1, .inl (cI, 11, .inl (lead F G n q set (n - i0) i0 p0 B))), (h0, .inr (0, [.int (nI n), .int P, .ref h1, .ref h2])), (h1, .inl (cI, 50, .inl F)), (h2, .inl (cI, 6, .inl G))] H := hP
          have hD : va_D AM [(s0, .inr (1, [.ref s1])), (s1, .inl (cI, 11, .inl (lead F G n q set (n - i0) i0 p0 B))), (h0, .inr (0, [.int (nI n), .int P, .ref h1, .ref h2])), (h1, .inl (cI, 50, .inl F)), (h2, .inl (cI, 6, .inl G))] := hD
          refine e_v (u := ()) hx hb hr hlocks hP hD hS dX1_leadOn_131 ?_ ?_
          · rfl
          · trivial
        · refine lv_aload_n hx hb dX1_leadOn_108 rfl (lv_at hl 0 rfl) ?_
          refine va_get (D := D) (ci := 1) (v := .ref s1) (C := RX1) (T := TX1) (N := 1) hx hb hts in_X1_leadOn_1 hown hK hP 0 rfl rfl 0 (by decide) (hts (.fieldLink RX1 9 "HoseSpans$PumpSearch" "best" "[I") (List.mem_of_getElem? (i := 3) (by decide +kernel))) (fun _ h9 => h9) rfl dX1_leadOn_109 ?_
          refine lv_aload_n hx hb dX1_leadOn_112 rfl (lv_at hl 1 rfl) ?_
          refine va_get (D := D) (ci := 0) (v := .int (nI n)) (C := RX0) (T := TX0) (N := 4) hx hb hts in_X1_leadOn_0 hown hK hP 2 rfl rfl 0 (by decide) (hts (.fieldLink RX1 31 "HoseSpans$Line" "spans" "I") (List.mem_of_getElem? (i := 1) (by decide +kernel))) (fun _ h9 => h9) rfl dX1_leadOn_113 ?_
          refine lv_aload_n hx hb dX1_leadOn_116 rfl (lv_at hl 0 rfl) ?_
          refine va_get (D := D) (ci := 1) (v := .ref s1) (C := RX1) (T := TX1) (N := 1) hx hb hts in_X1_leadOn_1 hown hK hP 0 rfl rfl 0 (by decide) (hts (.fieldLink RX1 9 "HoseSpans$PumpSearch" "best" "[I") (List.mem_of_getElem? (i := 3) (by decide +kernel))) (fun _ h9 => h9) rfl dX1_leadOn_117 ?_
          refine lv_aload_n hx hb dX1_leadOn_120 rfl (lv_at hl 1 rfl) ?_
          refine va_get (D := D) (ci := 0) (v := .int (nI n)) (C := RX0) (T := TX0) (N := 4) hx hb hts in_X1_leadOn_0 hown hK hP 2 rfl rfl 0 (by decide) (hts (.fieldLink RX1 31 "HoseSpans$Line" "spans" "I") (List.mem_of_getElem? (i := 1) (by decide +kernel))) (fun _ h9 => h9) rfl dX1_leadOn_121 ?_
          refine va_iald hx hb hK hP 1 0 rfl rfl (vp_in_nI (by omega) (by decide)) dX1_leadOn_124 ?_
          refine e_n (y := Y n) (congrArg Y (nI_clamp (by omega))) ?_
          refine lv_iload hx hb dX1_leadOn_125 (lv_at hl 5 rfl) ?_
          refine va_mmin hx hb (by rw [hml]; exact hl.1.symm) hown (hts (.methodLink RX1 35 Lib.Math.min.name) (List.mem_of_getElem? (i := 4) (by decide +kernel))) (hts (.static Lib.Math.min.name) (List.mem_of_getElem? (i := 5) (by decide +kernel))) (hts (.initialized RJ9) (List.mem_of_getElem? (i := 6) (by decide +kernel))) (hts _ (List.mem_of_getElem? (i := 7) rfl)) (Nat.le_of_ble_eq_true rfl) (Nat.le_of_ble_eq_true rfl) (Nat.le_of_ble_eq_true rfl) (Nat.le_of_ble_eq_true rfl) dX1_leadOn_127 ?_
          refine va_iast hx hb hK hP hD hS 1 0 rfl rfl (vp_in_nI (by omega) (by decide)) dX1_leadOn_130 (fun H locs hP hD hS => ?_)
          rw [show Int32.toNatClampNeg (nI n) = n from (nI_clamp (by omega))] at hP hD
          have hP : va_P D vwCl [(s0, .inr (1, [.ref s1])), (s1, .inl (cI, 11, .inl (upd Y n (if set < Y n then set else Y n)))), (h0, .inr (0, [.int (nI n), .int P, .ref h1, .ref h2])), (h1, .inl (cI, 50, .inl F)), (h2, .inl (cI, 6, .inl G))] H := hP
          have hD : va_D AM [(s0, .inr (1, [.ref s1])), (s1, .inl (cI, 11, .inl (upd Y n (if set < Y n then set else Y n)))), (h0, .inr (0, [.int (nI n), .int P, .ref h1, .ref h2])), (h1, .inl (cI, 50, .inl F)), (h2, .inl (cI, 6, .inl G))] := hD
          rw [show (upd Y n (if set < Y n then set else Y n)) = (lead F G n q set (n - i0) i0 p0 B) from (by first | exact lead_e1 hI (by assumption) (by assumption) | exact lead_e2 hI (by assumption) (by assumption))] at hP hD
          have hP : va_P D vwCl [(s0, .inr (1, [.ref s1])), (s1, .inl (cI, 11, .inl (lead F G n q set (n - i0) i0 p0 B))), (h0, .inr (0, [.int (nI n), .int P, .ref h1, .ref h2])), (h1, .inl (cI, 50, .inl F)), (h2, .inl (cI, 6, .inl G))] H := hP
          have hD : va_D AM [(s0, .inr (1, [.ref s1])), (s1, .inl (cI, 11, .inl (lead F G n q set (n - i0) i0 p0 B))), (h0, .inr (0, [.int (nI n), .int P, .ref h1, .ref h2])), (h1, .inl (cI, 50, .inl F)), (h2, .inl (cI, 6, .inl G))] := hD
          refine e_v (u := ()) hx hb hr hlocks hP hD hS dX1_leadOn_131 ?_ ?_
          · rfl
          · trivial
      · have c_3 := Int32.not_le.mp c_3
        have c_3 : i < n := (nI_ltI (by omega) (by omega)).mp c_3
        refine lv_iload hx hb dX1_leadOn_16 (lv_at hl 6 rfl) ?_
        refine lv_aload_n hx hb dX1_leadOn_18 rfl (lv_at hl 1 rfl) ?_
        refine va_get (D := D) (ci := 0) (v := .ref h2) (C := RX0) (T := TX0) (N := 4) hx hb hts in_X1_leadOn_0 hown hK hP 2 rfl rfl 3 (by decide) (hts (.fieldLink RX1 22 "HoseSpans$Line" "settings" "[I") (List.mem_of_getElem? (i := 2) (by decide +kernel))) (fun _ h9 => h9) rfl dX1_leadOn_19 ?_
        refine lv_iconst (v := 4) hx hb dX1_leadOn_22 (by decide) ?_
        refine va_iald hx hb hK hP 4 0 rfl rfl (vp_in_nI (n := 4) (by decide) (by decide)) dX1_leadOn_23 ?_
        refine e_n (y := G 4) (congrArg G (by decide)) ?_
        refine lv_icmp_lt (tgt := 66) hx hb dX1_leadOn_24 (by decide) (fun c_5 => ?_) (fun c_5 => ?_)
        · rw [show Y = (ldB G i set pp Y) from (by first | exact ldB_1 (by assumption) | exact ldB_2 (by assumption) | exact ldB_3 (by assumption) (by assumption))] at hP hD
          have hP : va_P D vwCl [(s0, .inr (1, [.ref s1])), (s1, .inl (cI, 11, .inl (ldB G i set pp Y))), (h0, .inr (0, [.int (nI n), .int P, .ref h1, .ref h2])), (h1, .inl (cI, 50, .inl F)), (h2, .inl (cI, 6, .inl G))] H := hP
          have hD : va_D AM [(s0, .inr (1, [.ref s1])), (s1, .inl (cI, 11, .inl (ldB G i set pp Y))), (h0, .inr (0, [.int (nI n), .int P, .ref h1, .ref h2])), (h1, .inl (cI, 50, .inl F)), (h2, .inl (cI, 6, .inl G))] := hD
          refine lv_aload_n hx hb dX1_leadOn_66 rfl (lv_at hl 1 rfl) ?_
          refine lv_iload hx hb dX1_leadOn_67 (lv_at hl 7 rfl) ?_
          refine lv_iload hx hb dX1_leadOn_69 (lv_at hl 6 rfl) ?_
          refine lv_iload_n hx hb dX1_leadOn_71 rfl (lv_at hl 2 rfl) ?_
          refine k_i (va_runV (As := [.int (nI i), .int pp, .int q]) (rest := []) ⟨hx, hb, hml, hown, hts⟩ (c_X0_failureOf l D cI cB cO H.size h0 h1 h2 n P F i pp q (by first | assumption | omega | exact okFacts.sort (by assumption) (by omega)) (by first | assumption | omega | exact okFacts.sort (by assumption) (by omega))) (cwV 3 hts gX1_leadOn_X0_failureOf rfl rfl rfl (by decide +kernel) ⟨Nat.le_of_ble_eq_true rfl, Nat.le_of_ble_eq_true rfl⟩) (preV_of hK hP hD hS hA hSt [2, 3] (by decide) rfl 2 (ci := 0) rfl rfl) rfl rfl hl.1 rfl (lv_room (Nat.le_of_ble_eq_true rfl)) dX1_leadOn_72 ⟨Nat.le_of_ble_eq_true rfl, Nat.le_of_ble_eq_true rfl⟩) hP hD hS hA [2, 3] [0, 1, 4] [0, 1, 3, 4, 2] [(s0, .inr (1, [.ref s1])), (s1, .inl (cI, 11, .inl (ldB G i set pp Y))), (h2, .inl (cI, 6, .inl G))] (fun (u_6 : Unit) => [(s0, .inr (1, [.ref s1])), (s1, .inl (cI, 11, .inl (ldB G i set pp Y))), (h0, .inr (0, [.int (nI n), .int P, .ref h1, .ref h2])), (h1, .inl (cI, 50, .inl F)), (h2, .inl (cI, 6, .inl G))]) rfl rfl (by decide) (by decide) (by decide) (fun _ => rfl) (fun r_6 u_6 H locs q_6 hP hD hS => ?_)
          obtain rfl : r_6 = failF F i pp q := q_6
          refine lv_if_eq (tgt := 79) hx hb dX1_leadOn_75 (by decide) (fun c_7 => ?_) (fun c_7 => ?_)
          · refine lv_iload hx hb dX1_leadOn_79 (lv_at hl 6 rfl) ?_
            refine lv_aload_n hx hb dX1_leadOn_81 rfl (lv_at hl 1 rfl) ?_
            refine lv_iload hx hb dX1_leadOn_82 (lv_at hl 7 rfl) ?_
            refine lv_iload_n hx hb dX1_leadOn_84 rfl (lv_at hl 2 rfl) ?_
            refine k_i (va_runV (As := [.int (nI i), .int q]) (rest := [.int pp]) ⟨hx, hb, hml, hown, hts⟩ (c_X0_lossBy l D cI cB cO H.size h0 h1 h2 n P F i q (by first | assumption | omega | exact okFacts.sort (by assumption) (by omega)) (by first | assumption | omega | exact okFacts.sort (by assumption) (by omega))) (cwV 2 hts gX1_leadOn_X0_lossBy rfl rfl rfl (by decide +kernel) ⟨Nat.le_of_ble_eq_true rfl, Nat.le_of_ble_eq_true rfl⟩) (preV_of hK hP hD hS hA hSt [2, 3] (by decide) rfl 2 (ci := 0) rfl rfl) rfl rfl hl.1 rfl (lv_room (Nat.le_of_ble_eq_true rfl)) dX1_leadOn_85 ⟨Nat.le_of_ble_eq_true rfl, Nat.le_of_ble_eq_true rfl⟩) hP hD hS hA [2, 3] [0, 1, 4] [0, 1, 3, 4, 2] [(s0, .inr (1, [.ref s1])), (s1, .inl (cI, 11, .inl (ldB G i set pp Y))), (h2, .inl (cI, 6, .inl G))] (fun (u_8 : Unit) => [(s0, .inr (1, [.ref s1])), (s1, .inl (cI, 11, .inl (ldB G i set pp Y))), (h0, .inr (0, [.int (nI n), .int P, .ref h1, .ref h2])), (h1, .inl (cI, 50, .inl F)), (h2, .inl (cI, 6, .inl G))]) rfl rfl (by decide) (by decide) (by decide) (fun _ => rfl) (fun r_8 u_8 H locs q_8 hP hD hS => ?_)
            obtain rfl : r_8 = lossF F i q := q_8
            refine lv_isub hx hb dX1_leadOn_88 ?_
            refine lv_istore (lv' := [(6, .int (pp - (lossF F i q))), (0, .ref s0), (1, .ref h0), (2, .int q), (3, .int (nI i0)), (4, .int p0), (5, .int set), (7, .int (nI i))]) hx hb dX1_leadOn_89 hl (by decide) rfl (fun ls hl => ?_)
            refine lv_iinc (v := nI (i + 1)) (lv' := [(7, .int (nI (i + 1))), (6, .int (pp - (lossF F i q))), (0, .ref s0), (1, .ref h0), (2, .int q), (3, .int (nI i0)), (4, .int p0), (5, .int set)]) hx hb dX1_leadOn_91 hl (k := 7) rfl (nI_add i 1) (by decide) rfl (fun ls hl => ?_)
            refine lv_goto (tgt := 7) hx hb dX1_leadOn_94 (by decide) ?_
            have hl9 : lv_has ls 8 [(0, .ref s0), (1, .ref h0), (2, .int q), (3, .int (nI i0)), (4, .int p0), (5, .int set), (6, .int (pp - (lossF F i q))), (7, .int (nI (i + 1)))] := lv_sub hl [2, 3, 4, 5, 6, 7, 1, 0] rfl
            exact ih_2 (i + 1) (pp - (lossF F i q)) (ldB G i set pp Y) (by first | assumption | omega | exact okFacts.sort (by assumption) (by omega)) (by exact lead_g hI (by assumption) (by assumption)) (by omega) H locs hP hD hS ls hl9
          · rw [show (ldB G i set pp Y) = (lead F G n q set (n - i0) i0 p0 B) from lead_f hI (by assumption) (by assumption)] at hP hD
            have hP : va_P D vwCl [(s0, .inr (1, [.ref s1])), (s1, .inl (cI, 11, .inl (lead F G n q set (n - i0) i0 p0 B))), (h0, .inr (0, [.int (nI n), .int P, .ref h1, .ref h2])), (h1, .inl (cI, 50, .inl F)), (h2, .inl (cI, 6, .inl G))] H := hP
            have hD : va_D AM [(s0, .inr (1, [.ref s1])), (s1, .inl (cI, 11, .inl (lead F G n q set (n - i0) i0 p0 B))), (h0, .inr (0, [.int (nI n), .int P, .ref h1, .ref h2])), (h1, .inl (cI, 50, .inl F)), (h2, .inl (cI, 6, .inl G))] := hD
            refine e_v (u := ()) hx hb hr hlocks hP hD hS dX1_leadOn_78 ?_ ?_
            · rfl
            · trivial
        · refine lv_iload hx hb dX1_leadOn_27 (lv_at hl 6 rfl) ?_
          refine lv_aload_n hx hb dX1_leadOn_29 rfl (lv_at hl 1 rfl) ?_
          refine va_get (D := D) (ci := 0) (v := .ref h2) (C := RX0) (T := TX0) (N := 4) hx hb hts in_X1_leadOn_0 hown hK hP 2 rfl rfl 3 (by decide) (hts (.fieldLink RX1 22 "HoseSpans$Line" "settings" "[I") (List.mem_of_getElem? (i := 2) (by decide +kernel))) (fun _ h9 => h9) rfl dX1_leadOn_30 ?_
          refine lv_iconst (v := 3) hx hb dX1_leadOn_33 (by decide) ?_
          refine va_iald hx hb hK hP 4 0 rfl rfl (vp_in_nI (n := 3) (by decide) (by decide)) dX1_leadOn_34 ?_
          refine e_n (y := G 3) (congrArg G (by decide)) ?_
          refine lv_icmp_ge (tgt := 66) hx hb dX1_leadOn_35 (by decide) (fun c_9 => ?_) (fun c_9 => ?_)
          · have c_9 := Int32.not_lt.mpr c_9
            rw [show Y = (ldB G i set pp Y) from (by first | exact ldB_1 (by assumption) | exact ldB_2 (by assumption) | exact ldB_3 (by assumption) (by assumption))] at hP hD
            have hP : va_P D vwCl [(s0, .inr (1, [.ref s1])), (s1, .inl (cI, 11, .inl (ldB G i set pp Y))), (h0, .inr (0, [.int (nI n), .int P, .ref h1, .ref h2])), (h1, .inl (cI, 50, .inl F)), (h2, .inl (cI, 6, .inl G))] H := hP
            have hD : va_D AM [(s0, .inr (1, [.ref s1])), (s1, .inl (cI, 11, .inl (ldB G i set pp Y))), (h0, .inr (0, [.int (nI n), .int P, .ref h1, .ref h2])), (h1, .inl (cI, 50, .inl F)), (h2, .inl (cI, 6, .inl G))] := hD
            refine lv_aload_n hx hb dX1_leadOn_66 rfl (lv_at hl 1 rfl) ?_
            refine lv_iload hx hb dX1_leadOn_67 (lv_at hl 7 rfl) ?_
            refine lv_iload hx hb dX1_leadOn_69 (lv_at hl 6 rfl) ?_
            refine lv_iload_n hx hb dX1_leadOn_71 rfl (lv_at hl 2 rfl) ?_
            refine k_i (va_runV (As := [.int (nI i), .int pp, .int q]) (rest := []) ⟨hx, hb, hml, hown, hts⟩ (c_X0_failureOf l D cI cB cO H.size h0 h1 h2 n P F i pp q (by first | assumption | omega | exact okFacts.sort (by assumption) (by omega)) (by first | assumption | omega | exact okFacts.sort (by assumption) (by omega))) (cwV 3 hts gX1_leadOn_X0_failureOf rfl rfl rfl (by decide +kernel) ⟨Nat.le_of_ble_eq_true rfl, Nat.le_of_ble_eq_true rfl⟩) (preV_of hK hP hD hS hA hSt [2, 3] (by decide) rfl 2 (ci := 0) rfl rfl) rfl rfl hl.1 rfl (lv_room (Nat.le_of_ble_eq_true rfl)) dX1_leadOn_72 ⟨Nat.le_of_ble_eq_true rfl, Nat.le_of_ble_eq_true rfl⟩) hP hD hS hA [2, 3] [0, 1, 4] [0, 1, 3, 4, 2] [(s0, .inr (1, [.ref s1])), (s1, .inl (cI, 11, .inl (ldB G i set pp Y))), (h2, .inl (cI, 6, .inl G))] (fun (u_10 : Unit) => [(s0, .inr (1, [.ref s1])), (s1, .inl (cI, 11, .inl (ldB G i set pp Y))), (h0, .inr (0, [.int (nI n), .int P, .ref h1, .ref h2])), (h1, .inl (cI, 50, .inl F)), (h2, .inl (cI, 6, .inl G))]) rfl rfl (by decide) (by decide) (by decide) (fun _ => rfl) (fun r_10 u_10 H locs q_10 hP hD hS => ?_)
            obtain rfl : r_10 = failF F i pp q := q_10
            refine lv_if_eq (tgt := 79) hx hb dX1_leadOn_75 (by decide) (fun c_11 => ?_) (fun c_11 => ?_)
            · refine lv_iload hx hb dX1_leadOn_79 (lv_at hl 6 rfl) ?_
              refine lv_aload_n hx hb dX1_leadOn_81 rfl (lv_at hl 1 rfl) ?_
              refine lv_iload hx hb dX1_leadOn_82 (lv_at hl 7 rfl) ?_
              refine lv_iload_n hx hb dX1_leadOn_84 rfl (lv_at hl 2 rfl) ?_
              refine k_i (va_runV (As := [.int (nI i), .int q]) (rest := [.int pp]) ⟨hx, hb, hml, hown, hts⟩ (c_X0_lossBy l D cI cB cO H.size h0 h1 h2 n P F i q (by first | assumption | omega | exact okFacts.sort (by assumption) (by omega)) (by first | assumption | omega | exact okFacts.sort (by assumption) (by omega))) (cwV 2 hts gX1_leadOn_X0_lossBy rfl rfl rfl (by decide +kernel) ⟨Nat.le_of_ble_eq_true rfl, Nat.le_of_ble_eq_true rfl⟩) (preV_of hK hP hD hS hA hSt [2, 3] (by decide) rfl 2 (ci := 0) rfl rfl) rfl rfl hl.1 rfl (lv_room (Nat.le_of_ble_eq_true rfl)) dX1_leadOn_85 ⟨Nat.le_of_ble_eq_true rfl, Nat.le_of_ble_eq_true rfl⟩) hP hD hS hA [2, 3] [0, 1, 4] [0, 1, 3, 4, 2] [(s0, .inr (1, [.ref s1])), (s1, .inl (cI, 11, .inl (ldB G i set pp Y))), (h2, .inl (cI, 6, .inl G))] (fun (u_12 : Unit) => [(s0, .inr (1, [.ref s1])), (s1, .inl (cI, 11, .inl (ldB G i set pp Y))), (h0, .inr (0, [.int (nI n), .int P, .ref h1, .ref h2])), (h1, .inl (cI, 50, .inl F)), (h2, .inl (cI, 6, .inl G))]) rfl rfl (by decide) (by decide) (by decide) (fun _ => rfl) (fun r_12 u_12 H locs q_12 hP hD hS => ?_)
              obtain rfl : r_12 = lossF F i q := q_12
              refine lv_isub hx hb dX1_leadOn_88 ?_
              refine lv_istore (lv' := [(6, .int (pp - (lossF F i q))), (0, .ref s0), (1, .ref h0), (2, .int q), (3, .int (nI i0)), (4, .int p0), (5, .int set), (7, .int (nI i))]) hx hb dX1_leadOn_89 hl (by decide) rfl (fun ls hl => ?_)
              refine lv_iinc (v := nI (i + 1)) (lv' := [(7, .int (nI (i + 1))), (6, .int (pp - (lossF F i q))), (0, .ref s0), (1, .ref h0), (2, .int q), (3, .int (nI i0)), (4, .int p0), (5, .int set)]) hx hb dX1_leadOn_91 hl (k := 7) rfl (nI_add i 1) (by decide) rfl (fun ls hl => ?_)
              refine lv_goto (tgt := 7) hx hb dX1_leadOn_94 (by decide) ?_
              have hl9 : lv_has ls 8 [(0, .ref s0), (1, .ref h0), (2, .int q), (3, .int (nI i0)), (4, .int p0), (5, .int set), (6, .int (pp - (lossF F i q))), (7, .int (nI (i + 1)))] := lv_sub hl [2, 3, 4, 5, 6, 7, 1, 0] rfl
              exact ih_2 (i + 1) (pp - (lossF F i q)) (ldB G i set pp Y) (by first | assumption | omega | exact okFacts.sort (by assumption) (by omega)) (by exact lead_g hI (by assumption) (by assumption)) (by omega) H locs hP hD hS ls hl9
            · rw [show (ldB G i set pp Y) = (lead F G n q set (n - i0) i0 p0 B) from lead_f hI (by assumption) (by assumption)] at hP hD
              have hP : va_P D vwCl [(s0, .inr (1, [.ref s1])), (s1, .inl (cI, 11, .inl (lead F G n q set (n - i0) i0 p0 B))), (h0, .inr (0, [.int (nI n), .int P, .ref h1, .ref h2])), (h1, .inl (cI, 50, .inl F)), (h2, .inl (cI, 6, .inl G))] H := hP
              have hD : va_D AM [(s0, .inr (1, [.ref s1])), (s1, .inl (cI, 11, .inl (lead F G n q set (n - i0) i0 p0 B))), (h0, .inr (0, [.int (nI n), .int P, .ref h1, .ref h2])), (h1, .inl (cI, 50, .inl F)), (h2, .inl (cI, 6, .inl G))] := hD
              refine e_v (u := ()) hx hb hr hlocks hP hD hS dX1_leadOn_78 ?_ ?_
              · rfl
              · trivial
          · have c_9 := Int32.not_le.mp c_9
            refine lv_aload_n hx hb dX1_leadOn_38 rfl (lv_at hl 0 rfl) ?_
            refine va_get (D := D) (ci := 1) (v := .ref s1) (C := RX1) (T := TX1) (N := 1) hx hb hts in_X1_leadOn_1 hown hK hP 0 rfl rfl 0 (by decide) (hts (.fieldLink RX1 9 "HoseSpans$PumpSearch" "best" "[I") (List.mem_of_getElem? (i := 3) (by decide +kernel))) (fun _ h9 => h9) rfl dX1_leadOn_39 ?_
            refine lv_iload hx hb dX1_leadOn_42 (lv_at hl 7 rfl) ?_
            refine lv_aload_n hx hb dX1_leadOn_44 rfl (lv_at hl 0 rfl) ?_
            refine va_get (D := D) (ci := 1) (v := .ref s1) (C := RX1) (T := TX1) (N := 1) hx hb hts in_X1_leadOn_1 hown hK hP 0 rfl rfl 0 (by decide) (hts (.fieldLink RX1 9 "HoseSpans$PumpSearch" "best" "[I") (List.mem_of_getElem? (i := 3) (by decide +kernel))) (fun _ h9 => h9) rfl dX1_leadOn_45 ?_
            refine lv_iload hx hb dX1_leadOn_48 (lv_at hl 7 rfl) ?_
            refine va_iald hx hb hK hP 1 0 rfl rfl (vp_in_nI (by omega) (by decide)) dX1_leadOn_50 ?_
            refine e_n (y := Y i) (congrArg Y (nI_clamp (by omega))) ?_
            refine lv_iload hx hb dX1_leadOn_51 (lv_at hl 5 rfl) ?_
            refine lv_sipush (v := 2048) hx hb dX1_leadOn_53 (by decide) ?_
            refine lv_iadd hx hb dX1_leadOn_56 ?_
            refine lv_iconst (v := 1) hx hb dX1_leadOn_57 (by decide) ?_
            refine lv_iload hx hb dX1_leadOn_58 (lv_at hl 7 rfl) ?_
            refine lv_ishl hx hb dX1_leadOn_60 ?_
            refine lv_iadd hx hb dX1_leadOn_61 ?_
            refine va_mmin hx hb (by rw [hml]; exact hl.1.symm) hown (hts (.methodLink RX1 35 Lib.Math.min.name) (List.mem_of_getElem? (i := 4) (by decide +kernel))) (hts (.static Lib.Math.min.name) (List.mem_of_getElem? (i := 5) (by decide +kernel))) (hts (.initialized RJ9) (List.mem_of_getElem? (i := 6) (by decide +kernel))) (hts _ (List.mem_of_getElem? (i := 7) rfl)) (Nat.le_of_ble_eq_true rfl) (Nat.le_of_ble_eq_true rfl) (Nat.le_of_ble_eq_true rfl) (Nat.le_of_ble_eq_true rfl) dX1_leadOn_62 ?_
            refine va_iast hx hb hK hP hD hS 1 0 rfl rfl (vp_in_nI (by omega) (by decide)) dX1_leadOn_65 (fun H locs hP hD hS => ?_)
            rw [show Int32.toNatClampNeg (nI i) = i from (nI_clamp (by omega))] at hP hD
            have hP : va_P D vwCl [(s0, .inr (1, [.ref s1])), (s1, .inl (cI, 11, .inl (upd Y i (if (set + 2048) + ((1 : Int32) <<< ((nI i) &&& 31)) < Y i then (set + 2048) + ((1 : Int32) <<< ((nI i) &&& 31)) else Y i)))), (h0, .inr (0, [.int (nI n), .int P, .ref h1, .ref h2])), (h1, .inl (cI, 50, .inl F)), (h2, .inl (cI, 6, .inl G))] H := hP
            have hD : va_D AM [(s0, .inr (1, [.ref s1])), (s1, .inl (cI, 11, .inl (upd Y i (if (set + 2048) + ((1 : Int32) <<< ((nI i) &&& 31)) < Y i then (set + 2048) + ((1 : Int32) <<< ((nI i) &&& 31)) else Y i)))), (h0, .inr (0, [.int (nI n), .int P, .ref h1, .ref h2])), (h1, .inl (cI, 50, .inl F)), (h2, .inl (cI, 6, .inl G))] := hD
            rw [show (upd Y i (if (set + 2048) + ((1 : Int32) <<< ((nI i) &&& 31)) < Y i then (set + 2048) + ((1 : Int32) <<< ((nI i) &&& 31)) else Y i)) = (ldB G i set pp Y) from (by first | exact ldB_1 (by assumption) | exact ldB_2 (by assumption) | exact ldB_3 (by assumption) (by assumption))] at hP hD
            have hP : va_P D vwCl [(s0, .inr (1, [.ref s1])), (s1, .inl (cI, 11, .inl (ldB G i set pp Y))), (h0, .inr (0, [.int (nI n), .int P, .ref h1, .ref h2])), (h1, .inl (cI, 50, .inl F)), (h2, .inl (cI, 6, .inl G))] H := hP
            have hD : va_D AM [(s0, .inr (1, [.ref s1])), (s1, .inl (cI, 11, .inl (ldB G i set pp Y))), (h0, .inr (0, [.int (nI n), .int P, .ref h1, .ref h2])), (h1, .inl (cI, 50, .inl F)), (h2, .inl (cI, 6, .inl G))] := hD
            refine lv_aload_n hx hb dX1_leadOn_66 rfl (lv_at hl 1 rfl) ?_
            refine lv_iload hx hb dX1_leadOn_67 (lv_at hl 7 rfl) ?_
            refine lv_iload hx hb dX1_leadOn_69 (lv_at hl 6 rfl) ?_
            refine lv_iload_n hx hb dX1_leadOn_71 rfl (lv_at hl 2 rfl) ?_
            refine k_i (va_runV (As := [.int (nI i), .int pp, .int q]) (rest := []) ⟨hx, hb, hml, hown, hts⟩ (c_X0_failureOf l D cI cB cO H.size h0 h1 h2 n P F i pp q (by first | assumption | omega | exact okFacts.sort (by assumption) (by omega)) (by first | assumption | omega | exact okFacts.sort (by assumption) (by omega))) (cwV 3 hts gX1_leadOn_X0_failureOf rfl rfl rfl (by decide +kernel) ⟨Nat.le_of_ble_eq_true rfl, Nat.le_of_ble_eq_true rfl⟩) (preV_of hK hP hD hS hA hSt [2, 3] (by decide) rfl 2 (ci := 0) rfl rfl) rfl rfl hl.1 rfl (lv_room (Nat.le_of_ble_eq_true rfl)) dX1_leadOn_72 ⟨Nat.le_of_ble_eq_true rfl, Nat.le_of_ble_eq_true rfl⟩) hP hD hS hA [2, 3] [0, 1, 4] [0, 1, 3, 4, 2] [(s0, .inr (1, [.ref s1])), (s1, .inl (cI, 11, .inl (ldB G i set pp Y))), (h2, .inl (cI, 6, .inl G))] (fun (u_13 : Unit) => [(s0, .inr (1, [.ref s1])), (s1, .inl (cI, 11, .inl (ldB G i set pp Y))), (h0, .inr (0, [.int (nI n), .int P, .ref h1, .ref h2])), (h1, .inl (cI, 50, .inl F)), (h2, .inl (cI, 6, .inl G))]) rfl rfl (by decide) (by decide) (by decide) (fun _ => rfl) (fun r_13 u_13 H locs q_13 hP hD hS => ?_)
            obtain rfl : r_13 = failF F i pp q := q_13
            refine lv_if_eq (tgt := 79) hx hb dX1_leadOn_75 (by decide) (fun c_14 => ?_) (fun c_14 => ?_)
            · refine lv_iload hx hb dX1_leadOn_79 (lv_at hl 6 rfl) ?_
              refine lv_aload_n hx hb dX1_leadOn_81 rfl (lv_at hl 1 rfl) ?_
              refine lv_iload hx hb dX1_leadOn_82 (lv_at hl 7 rfl) ?_
              refine lv_iload_n hx hb dX1_leadOn_84 rfl (lv_at hl 2 rfl) ?_
              refine k_i (va_runV (As := [.int (nI i), .int q]) (rest := [.int pp]) ⟨hx, hb, hml, hown, hts⟩ (c_X0_lossBy l D cI cB cO H.size h0 h1 h2 n P F i q (by first | assumption | omega | exact okFacts.sort (by assumption) (by omega)) (by first | assumption | omega | exact okFacts.sort (by assumption) (by omega))) (cwV 2 hts gX1_leadOn_X0_lossBy rfl rfl rfl (by decide +kernel) ⟨Nat.le_of_ble_eq_true rfl, Nat.le_of_ble_eq_true rfl⟩) (preV_of hK hP hD hS hA hSt [2, 3] (by decide) rfl 2 (ci := 0) rfl rfl) rfl rfl hl.1 rfl (lv_room (Nat.le_of_ble_eq_true rfl)) dX1_leadOn_85 ⟨Nat.le_of_ble_eq_true rfl, Nat.le_of_ble_eq_true rfl⟩) hP hD hS hA [2, 3] [0, 1, 4] [0, 1, 3, 4, 2] [(s0, .inr (1, [.ref s1])), (s1, .inl (cI, 11, .inl (ldB G i set pp Y))), (h2, .inl (cI, 6, .inl G))] (fun (u_15 : Unit) => [(s0, .inr (1, [.ref s1])), (s1, .inl (cI, 11, .inl (ldB G i set pp Y))), (h0, .inr (0, [.int (nI n), .int P, .ref h1, .ref h2])), (h1, .inl (cI, 50, .inl F)), (h2, .inl (cI, 6, .inl G))]) rfl rfl (by decide) (by decide) (by decide) (fun _ => rfl) (fun r_15 u_15 H locs q_15 hP hD hS => ?_)
              obtain rfl : r_15 = lossF F i q := q_15
              refine lv_isub hx hb dX1_leadOn_88 ?_
              refine lv_istore (lv' := [(6, .int (pp - (lossF F i q))), (0, .ref s0), (1, .ref h0), (2, .int q), (3, .int (nI i0)), (4, .int p0), (5, .int set), (7, .int (nI i))]) hx hb dX1_leadOn_89 hl (by decide) rfl (fun ls hl => ?_)
              refine lv_iinc (v := nI (i + 1)) (lv' := [(7, .int (nI (i + 1))), (6, .int (pp - (lossF F i q))), (0, .ref s0), (1, .ref h0), (2, .int q), (3, .int (nI i0)), (4, .int p0), (5, .int set)]) hx hb dX1_leadOn_91 hl (k := 7) rfl (nI_add i 1) (by decide) rfl (fun ls hl => ?_)
              refine lv_goto (tgt := 7) hx hb dX1_leadOn_94 (by decide) ?_
              have hl9 : lv_has ls 8 [(0, .ref s0), (1, .ref h0), (2, .int q), (3, .int (nI i0)), (4, .int p0), (5, .int set), (6, .int (pp - (lossF F i q))), (7, .int (nI (i + 1)))] := lv_sub hl [2, 3, 4, 5, 6, 7, 1, 0] rfl
              exact ih_2 (i + 1) (pp - (lossF F i q)) (ldB G i set pp Y) (by first | assumption | omega | exact okFacts.sort (by assumption) (by omega)) (by exact lead_g hI (by assumption) (by assumption)) (by omega) H locs hP hD hS ls hl9
            · rw [show (ldB G i set pp Y) = (lead F G n q set (n - i0) i0 p0 B) from lead_f hI (by assumption) (by assumption)] at hP hD
              have hP : va_P D vwCl [(s0, .inr (1, [.ref s1])), (s1, .inl (cI, 11, .inl (lead F G n q set (n - i0) i0 p0 B))), (h0, .inr (0, [.int (nI n), .int P, .ref h1, .ref h2])), (h1, .inl (cI, 50, .inl F)), (h2, .inl (cI, 6, .inl G))] H := hP
              have hD : va_D AM [(s0, .inr (1, [.ref s1])), (s1, .inl (cI, 11, .inl (lead F G n q set (n - i0) i0 p0 B))), (h0, .inr (0, [.int (nI n), .int P, .ref h1, .ref h2])), (h1, .inl (cI, 50, .inl F)), (h2, .inl (cI, 6, .inl G))] := hD
              refine e_v (u := ()) hx hb hr hlocks hP hD hS dX1_leadOn_78 ?_ ?_
              · rfl
              · trivial
  have hl9 : lv_has ls 8 [(0, .ref s0), (1, .ref h0), (2, .int q), (3, .int (nI i0)), (4, .int p0), (5, .int set), (6, .int p0), (7, .int (nI i0))] := lv_sub hl [2, 3, 4, 5, 6, 7, 1, 0] rfl
  exact lp_1 ((n - i0) + 1) i0 p0 B (by first | assumption | omega | exact okFacts.sort (by assumption) (by omega)) (by rfl) (Nat.lt_succ_self _) H locs hP hD hS ls hl9
theorem in_X1_bestSet_0 : ∀ w ∈ wsX00, w ∈ wsX1_bestSet := fun _ h => List.mem_cons_of_mem _ (List.mem_append_right _ h)
theorem in_X1_bestSet_1 : ∀ w ∈ wsX10, w ∈ wsX1_bestSet := fun _ h => List.mem_cons_of_mem _ (List.mem_append_left _ (List.mem_append_right _ h))
set_option maxHeartbeats 4000000 in
set_option maxRecDepth 100000 in
theorem c_X1_bestSet (l : Launch) (D : va_G) (cI cB cO : ClassId) (sz : Nat) (s0 s1 : Nat) (B : Nat → Int32) (h0 h1 h2 n : Nat) (P : Int32) (F G : Nat → Int32) (q : Int32) (hn : n ≤ 10) (hf : okFacts F) : CI l yX1_bestSet wsX1_bestSet ({ frames := 4, cells := 0, slots := 0, locals := 95 } : Room) D (tyL cI cB cO) [.ref s0, .ref h0, .int q] [(s0, .inr (1, [.ref s1])), (s1, .inl (cI, 11, .inl B)), (h0, .inr (0, [.int (nI n), .int P, .ref h1, .ref h2])), (h1, .inl (cI, 50, .inl F)), (h2, .inl (cI, 6, .inl G))] sz (fun (r : Int32) (_ : Unit) => r = bestF F G n q) (fun (u : Unit) => [(s0, .inr (1, [.ref s1])), (s1, .inl (cI, 11, .inl (bsIter F G n q n))), (h0, .inr (0, [.int (nI n), .int P, .ref h1, .ref h2])), (h1, .inl (cI, 50, .inl F)), (h2, .inl (cI, 6, .inl G))]) 0 0 := by
  refine ct_of (cc := cX1_bestSet) (maxL := 4) (ret := some .int) (own := RX1) (Qc := QI D (fun (r : Int32) (_ : Unit) => r = bestF F G n q) (fun (u : Unit) => [(s0, .inr (1, [.ref s1])), (s1, .inl (cI, 11, .inl (bsIter F G n q n))), (h0, .inr (0, [.int (nI n), .int P, .ref h1, .ref h2])), (h1, .inl (cI, 50, .inl F)), (h2, .inl (cI, 6, .inl G))])) (by decide) rfl rfl (Nat.le_of_ble_eq_true rfl) ?_
  intro pM eM sM mM below meth cM AM ls H locs hx hb hr hts hown hlocks hml hin hK hP hD hS hA hSt hl
  have hl : lv_has ls 4 [(0, .ref s0), (1, .ref h0), (2, .int q)] := hl
  refine lv_aload_n hx hb dX1_bestSet_0 rfl (lv_at hl 0 rfl) ?_
  refine va_get (D := D) (ci := 1) (v := .ref s1) (C := RX1) (T := TX1) (N := 1) hx hb hts in_X1_bestSet_1 hown hK hP 0 rfl rfl 0 (by decide) (hts (.fieldLink RX1 9 "HoseSpans$PumpSearch" "best" "[I") (List.mem_of_getElem? (i := 1) (by decide +kernel))) (fun _ h9 => h9) rfl dX1_bestSet_1 ?_
  refine lv_ldc (v := 1073741824) hx hb hown (hts (.constant RX1 15 1073741824) (List.mem_of_getElem? (i := 2) (by decide +kernel))) dX1_bestSet_4 ?_
  refine k_v (va_runS (As := [.ref s1, .int 1073741824]) (rest := []) ⟨hx, hb, hml, hown, hts⟩ (c_J7_fill_53178 l D cI cB cO H.size s1 11 B 1073741824 (by first | assumption | omega | exact okFacts.sort (by assumption) (by omega))) (va_cwS 2 hts gX1_bestSet_J7_fill_53178 rfl rfl rfl (by decide +kernel) ⟨Nat.le_of_ble_eq_true rfl, Nat.le_of_ble_eq_true rfl⟩) (preS_of hK hP hD hS hA hSt [1] (by decide) rfl) rfl rfl hl.1 rfl (lv_room (Nat.le_of_ble_eq_true rfl)) dX1_bestSet_6 ⟨Nat.le_of_ble_eq_true rfl, Nat.le_of_ble_eq_true rfl⟩) hP hD hS hA [1] [0, 2, 3, 4] [0, 4, 1, 2, 3] [(s0, .inr (1, [.ref s1])), (h0, .inr (0, [.int (nI n), .int P, .ref h1, .ref h2])), (h1, .inl (cI, 50, .inl F)), (h2, .inl (cI, 6, .inl G))] (fun (u_1 : Unit) => [(s0, .inr (1, [.ref s1])), (s1, .inl (cI, 11, .inl (fun _ => 1073741824))), (h0, .inr (0, [.int (nI n), .int P, .ref h1, .ref h2])), (h1, .inl (cI, 50, .inl F)), (h2, .inl (cI, 6, .inl G))]) rfl rfl (by decide) (by decide) (by decide) (fun _ => rfl) (fun u_1 H locs q_1 hP hD hS => ?_)
  refine lv_aload_n hx hb dX1_bestSet_9 rfl (lv_at hl 0 rfl) ?_
  refine lv_aload_n hx hb dX1_bestSet_10 rfl (lv_at hl 1 rfl) ?_
  refine lv_iload_n hx hb dX1_bestSet_11 rfl (lv_at hl 2 rfl) ?_
  refine lv_iconst (v := 0) hx hb dX1_bestSet_12 (by decide) ?_
  refine lv_aload_n hx hb dX1_bestSet_13 rfl (lv_at hl 1 rfl) ?_
  refine va_get (D := D) (ci := 0) (v := .ref h2) (C := RX0) (T := TX0) (N := 4) hx hb hts in_X1_bestSet_0 hown hK hP 2 rfl rfl 3 (by decide) (hts (.fieldLink RX1 22 "HoseSpans$Line" "settings" "[I") (List.mem_of_getElem? (i := 3) (by decide +kernel))) (fun _ h9 => h9) rfl dX1_bestSet_14 ?_
  refine lv_iconst (v := 1) hx hb dX1_bestSet_17 (by decide) ?_
  refine va_iald hx hb hK hP 4 0 rfl rfl (vp_in_nI (n := 1) (by decide) (by decide)) dX1_bestSet_18 ?_
  refine e_n (y := G 1) (congrArg G (by decide)) ?_
  refine lv_iconst (v := 0) hx hb dX1_bestSet_19 (by decide) ?_
  refine k_v (va_runV (As := [.ref h0, .int q, .int (nI 0), .int (G 1), .int 0]) (rest := []) ⟨hx, hb, hml, hown, hts⟩ (c_X1_leadOn l D cI cB cO H.size s0 s1 (fun _ => 1073741824) h0 h1 h2 n P F G q 0 (G 1) 0 (by first | assumption | omega | exact okFacts.sort (by assumption) (by omega)) (by first | assumption | omega | exact okFacts.sort (by assumption) (by omega)) (by first | assumption | omega | exact okFacts.sort (by assumption) (by omega))) (cwV 5 hts gX1_bestSet_X1_leadOn rfl rfl rfl (by decide +kernel) ⟨Nat.le_of_ble_eq_true rfl, Nat.le_of_ble_eq_true rfl⟩) (preV_of hK hP hD hS hA hSt [0, 1, 2, 3, 4] (by decide) rfl 0 (ci := 1) rfl rfl) rfl rfl hl.1 rfl (lv_room (Nat.le_of_ble_eq_true rfl)) dX1_bestSet_20 ⟨Nat.le_of_ble_eq_true rfl, Nat.le_of_ble_eq_true rfl⟩) hP hD hS hA [0, 1, 2, 3, 4] [] [0, 1, 2, 3, 4] [] (fun (u_2 : Unit) => [(s0, .inr (1, [.ref s1])), (s1, .inl (cI, 11, .inl (lead F G n q 0 (n - 0) 0 (G 1) (fun _ => 1073741824)))), (h0, .inr (0, [.int (nI n), .int P, .ref h1, .ref h2])), (h1, .inl (cI, 50, .inl F)), (h2, .inl (cI, 6, .inl G))]) rfl rfl (by decide) (by decide) (by decide) (fun _ => rfl) (fun u_2 H locs q_2 hP hD hS => ?_)
  refine lv_iconst (v := 0) hx hb dX1_bestSet_23 (by decide) ?_
  refine lv_istore_n (lv' := [(3, .int 0), (0, .ref s0), (1, .ref h0), (2, .int q)]) hx hb dX1_bestSet_24 rfl hl (by decide) rfl (fun ls hl => ?_)
  have lp_3 : ∀ (nn : Nat) (i : Nat), (i ≤ n) → (n - i) < nn → ∀ (H : Heap) (locs : List Loc), va_P D vwCl [(s0, .inr (1, [.ref s1])), (s1, .inl (cI, 11, .inl (bsIter F G n q i))), (h0, .inr (0, [.int (nI n), .int P, .ref h1, .ref h2])), (h1, .inl (cI, 50, .inl F)), (h2, .inl (cI, 6, .inl G))] H → va_D AM [(s0, .inr (1, [.ref s1])), (s1, .inl (cI, 11, .inl (bsIter F G n q i))), (h0, .inr (0, [.int (nI n), .int P, .ref h1, .ref h2])), (h1, .inl (cI, 50, .inl F)), (h2, .inl (cI, 6, .inl G))] → va_S AM sM.heap H locs → ∀ (ls : Array Slot), lv_has ls 4 [(0, .ref s0), (1, .ref h0), (2, .int q), (3, .int (nI i))] → W pM l eM ({ frames := 4, cells := 0, slots := 0, locals := 95 } : Room) sM mM ([.ref s0, .ref h0, .int q] : List Value).toArray below meth cM H locs 0 0 (MQ below (QI D (fun (r : Int32) (_ : Unit) => r = bestF F G n q) (fun (u : Unit) => [(s0, .inr (1, [.ref s1])), (s1, .inl (cI, 11, .inl (bsIter F G n q n))), (h0, .inr (0, [.int (nI n), .int P, .ref h1, .ref h2])), (h1, .inl (cI, 50, .inl F)), (h2, .inl (cI, 6, .inl G))]) AM) ([.ref s0, .ref h0, .int q] : List Value).toArray sM 0 0 AM) (F0 mM 25 ls []) := by
    intro nn
    induction nn with
    | zero =>
      intro i hi hm
      exact absurd hm (Nat.not_lt_zero _)
    | succ nn ih_4 =>
      intro i hi hm H locs hP hD hS ls hl
      refine lv_iload_n hx hb dX1_bestSet_25 rfl (lv_at hl 3 rfl) ?_
      refine lv_aload_n hx hb dX1_bestSet_26 rfl (lv_at hl 1 rfl) ?_
      refine va_get (D := D) (ci := 0) (v := .int (nI n)) (C := RX0) (T := TX0) (N := 4) hx hb hts in_X1_bestSet_0 hown hK hP 2 rfl rfl 0 (by decide) (hts (.fieldLink RX1 31 "HoseSpans$Line" "spans" "I") (List.mem_of_getElem? (i := 4) (by decide +kernel))) (fun _ h9 => h9) rfl dX1_bestSet_27 ?_
      refine lv_icmp_ge (tgt := 69) hx hb dX1_bestSet_30 (by decide) (fun c_5 => ?_) (fun c_5 => ?_)
      · have c_5 := Int32.not_lt.mpr c_5
        have c_5 : i = n := by have h := mt (nI_ltI (a := i) (b := n) (by omega) (by omega)).mpr c_5; omega
        rw [show (bsIter F G n q i) = (bsIter F G n q n) from (by rw [‹i = n›])] at hP hD
        have hP : va_P D vwCl [(s0, .inr (1, [.ref s1])), (s1, .inl (cI, 11, .inl (bsIter F G n q n))), (h0, .inr (0, [.int (nI n), .int P, .ref h1, .ref h2])), (h1, .inl (cI, 50, .inl F)), (h2, .inl (cI, 6, .inl G))] H := hP
        have hD : va_D AM [(s0, .inr (1, [.ref s1])), (s1, .inl (cI, 11, .inl (bsIter F G n q n))), (h0, .inr (0, [.int (nI n), .int P, .ref h1, .ref h2])), (h1, .inl (cI, 50, .inl F)), (h2, .inl (cI, 6, .inl G))] := hD
        refine lv_aload_n hx hb dX1_bestSet_69 rfl (lv_at hl 0 rfl) ?_
        refine va_get (D := D) (ci := 1) (v := .ref s1) (C := RX1) (T := TX1) (N := 1) hx hb hts in_X1_bestSet_1 hown hK hP 0 rfl rfl 0 (by decide) (hts (.fieldLink RX1 9 "HoseSpans$PumpSearch" "best" "[I") (List.mem_of_getElem? (i := 1) (by decide +kernel))) (fun _ h9 => h9) rfl dX1_bestSet_70 ?_
        refine lv_aload_n hx hb dX1_bestSet_73 rfl (lv_at hl 1 rfl) ?_
        refine va_get (D := D) (ci := 0) (v := .int (nI n)) (C := RX0) (T := TX0) (N := 4) hx hb hts in_X1_bestSet_0 hown hK hP 2 rfl rfl 0 (by decide) (hts (.fieldLink RX1 31 "HoseSpans$Line" "spans" "I") (List.mem_of_getElem? (i := 4) (by decide +kernel))) (fun _ h9 => h9) rfl dX1_bestSet_74 ?_
        refine va_iald hx hb hK hP 1 0 rfl rfl (vp_in_nI (by omega) (by decide)) dX1_bestSet_77 ?_
        refine e_n (y := (bsIter F G n q n) n) (congrArg (bsIter F G n q n) (nI_clamp (by omega))) ?_
        refine e_i (u := ()) hx hb hr hlocks hP hD hS dX1_bestSet_78 ?_ ?_
        · rfl
        · rfl
      · have c_5 := Int32.not_le.mp c_5
        have c_5 : i < n := (nI_ltI (by omega) (by omega)).mp c_5
        refine lv_aload_n hx hb dX1_bestSet_33 rfl (lv_at hl 0 rfl) ?_
        refine va_get (D := D) (ci := 1) (v := .ref s1) (C := RX1) (T := TX1) (N := 1) hx hb hts in_X1_bestSet_1 hown hK hP 0 rfl rfl 0 (by decide) (hts (.fieldLink RX1 9 "HoseSpans$PumpSearch" "best" "[I") (List.mem_of_getElem? (i := 1) (by decide +kernel))) (fun _ h9 => h9) rfl dX1_bestSet_34 ?_
        refine lv_iload_n hx hb dX1_bestSet_37 rfl (lv_at hl 3 rfl) ?_
        refine va_iald hx hb hK hP 1 0 rfl rfl (vp_in_nI (by omega) (by decide)) dX1_bestSet_38 ?_
        refine e_n (y := (bsIter F G n q i) i) (congrArg (bsIter F G n q i) (nI_clamp (by omega))) ?_
        refine lv_ldc (v := 1073741824) hx hb hown (hts (.constant RX1 15 1073741824) (List.mem_of_getElem? (i := 2) (by decide +kernel))) dX1_bestSet_39 ?_
        refine lv_icmp_eq (tgt := 63) hx hb dX1_bestSet_41 (by decide) (fun c_6 => ?_) (fun c_6 => ?_)
        · refine lv_iinc (v := nI (i + 1)) (lv' := [(3, .int (nI (i + 1))), (0, .ref s0), (1, .ref h0), (2, .int q)]) hx hb dX1_bestSet_63 hl (k := 3) rfl (nI_add i 1) (by decide) rfl (fun ls hl => ?_)
          refine lv_goto (tgt := 25) hx hb dX1_bestSet_66 (by decide) ?_
          rw [show bsIter F G n q i = bsIter F G n q (i + 1) from (by first | exact bs_1 (by assumption) | exact bs_2 (by assumption))] at hP hD
          have hl9 : lv_has ls 4 [(0, .ref s0), (1, .ref h0), (2, .int q), (3, .int (nI (i + 1)))] := lv_sub hl [1, 2, 3, 0] rfl
          exact ih_4 (i + 1) (by first | assumption | omega | exact okFacts.sort (by assumption) (by omega)) (by omega) H locs hP hD hS ls hl9
        · refine lv_aload_n hx hb dX1_bestSet_44 rfl (lv_at hl 0 rfl) ?_
          refine lv_aload_n hx hb dX1_bestSet_45 rfl (lv_at hl 1 rfl) ?_
          refine lv_iload_n hx hb dX1_bestSet_46 rfl (lv_at hl 2 rfl) ?_
          refine lv_iload_n hx hb dX1_bestSet_47 rfl (lv_at hl 3 rfl) ?_
          refine lv_aload_n hx hb dX1_bestSet_48 rfl (lv_at hl 1 rfl) ?_
          refine va_get (D := D) (ci := 0) (v := .ref h2) (C := RX0) (T := TX0) (N := 4) hx hb hts in_X1_bestSet_0 hown hK hP 2 rfl rfl 3 (by decide) (hts (.fieldLink RX1 22 "HoseSpans$Line" "settings" "[I") (List.mem_of_getElem? (i := 3) (by decide +kernel))) (fun _ h9 => h9) rfl dX1_bestSet_49 ?_
          refine lv_iconst (v := 3) hx hb dX1_bestSet_52 (by decide) ?_
          refine va_iald hx hb hK hP 4 0 rfl rfl (vp_in_nI (n := 3) (by decide) (by decide)) dX1_bestSet_53 ?_
          refine e_n (y := G 3) (congrArg G (by decide)) ?_
          refine lv_aload_n hx hb dX1_bestSet_54 rfl (lv_at hl 0 rfl) ?_
          refine va_get (D := D) (ci := 1) (v := .ref s1) (C := RX1) (T := TX1) (N := 1) hx hb hts in_X1_bestSet_1 hown hK hP 0 rfl rfl 0 (by decide) (hts (.fieldLink RX1 9 "HoseSpans$PumpSearch" "best" "[I") (List.mem_of_getElem? (i := 1) (by decide +kernel))) (fun _ h9 => h9) rfl dX1_bestSet_55 ?_
          refine lv_iload_n hx hb dX1_bestSet_58 rfl (lv_at hl 3 rfl) ?_
          refine va_iald hx hb hK hP 1 0 rfl rfl (vp_in_nI (by omega) (by decide)) dX1_bestSet_59 ?_
          refine e_n (y := (bsIter F G n q i) i) (congrArg (bsIter F G n q i) (nI_clamp (by omega))) ?_
          refine k_v (va_runV (As := [.ref h0, .int q, .int (nI i), .int (G 3), .int ((bsIter F G n q i) i)]) (rest := []) ⟨hx, hb, hml, hown, hts⟩ (c_X1_leadOn l D cI cB cO H.size s0 s1 (bsIter F G n q i) h0 h1 h2 n P F G q i (G 3) ((bsIter F G n q i) i) (by first | assumption | omega | exact okFacts.sort (by assumption) (by omega)) (by first | assumption | omega | exact okFacts.sort (by assumption) (by omega)) (by first | assumption | omega | exact okFacts.sort (by assumption) (by omega))) (cwV 5 hts gX1_bestSet_X1_leadOn rfl rfl rfl (by decide +kernel) ⟨Nat.le_of_ble_eq_true rfl, Nat.le_of_ble_eq_true rfl⟩) (preV_of hK hP hD hS hA hSt [0, 1, 2, 3, 4] (by decide) rfl 0 (ci := 1) rfl rfl) rfl rfl hl.1 rfl (lv_room (Nat.le_of_ble_eq_true rfl)) dX1_bestSet_60 ⟨Nat.le_of_ble_eq_true rfl, Nat.le_of_ble_eq_true rfl⟩) hP hD hS hA [0, 1, 2, 3, 4] [] [0, 1, 2, 3, 4] [] (fun (u_7 : Unit) => [(s0, .inr (1, [.ref s1])), (s1, .inl (cI, 11, .inl (lead F G n q ((bsIter F G n q i) i) (n - i) i (G 3) (bsIter F G n q i)))), (h0, .inr (0, [.int (nI n), .int P, .ref h1, .ref h2])), (h1, .inl (cI, 50, .inl F)), (h2, .inl (cI, 6, .inl G))]) rfl rfl (by decide) (by decide) (by decide) (fun _ => rfl) (fun u_7 H locs q_7 hP hD hS => ?_)
          refine lv_iinc (v := nI (i + 1)) (lv' := [(3, .int (nI (i + 1))), (0, .ref s0), (1, .ref h0), (2, .int q)]) hx hb dX1_bestSet_63 hl (k := 3) rfl (nI_add i 1) (by decide) rfl (fun ls hl => ?_)
          refine lv_goto (tgt := 25) hx hb dX1_bestSet_66 (by decide) ?_
          rw [show lead F G n q ((bsIter F G n q i) i) (n - i) i (G 3) (bsIter F G n q i) = bsIter F G n q (i + 1) from (by first | exact bs_1 (by assumption) | exact bs_2 (by assumption))] at hP hD
          have hl9 : lv_has ls 4 [(0, .ref s0), (1, .ref h0), (2, .int q), (3, .int (nI (i + 1)))] := lv_sub hl [1, 2, 3, 0] rfl
          exact ih_4 (i + 1) (by first | assumption | omega | exact okFacts.sort (by assumption) (by omega)) (by omega) H locs hP hD hS ls hl9
  rw [show lead F G n q 0 (n - 0) 0 (G 1) (fun _ => 1073741824) = bsIter F G n q 0 from rfl] at hP hD
  have hl9 : lv_has ls 4 [(0, .ref s0), (1, .ref h0), (2, .int q), (3, .int 0)] := lv_sub hl [1, 2, 3, 0] rfl
  rw [show ([(0, .ref s0), (1, .ref h0), (2, .int q), (3, .int 0)] : List (Nat × Value)) = [(0, .ref s0), (1, .ref h0), (2, .int q), (3, .int (nI 0))] from rfl] at hl9
  exact lp_3 ((n - 0) + 1) 0 (by first | assumption | omega | exact okFacts.sort (by assumption) (by omega)) (Nat.lt_succ_self _) H locs hP hD hS ls hl9
