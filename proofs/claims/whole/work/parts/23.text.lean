theorem in_X3_byteHere_3 : ∀ w ∈ wsX30, w ∈ wsX3_byteHere := fun _ h => List.mem_cons_of_mem _ (List.mem_append_right _ h)
set_option maxHeartbeats 4000000 in
set_option maxRecDepth 100000 in
theorem c_X3_byteHere (l : Launch) (D : va_G) (cI cB cO : ClassId) (sz : Nat) (t0 t1 t2 t3 N o a : Nat) (T : Nat → Int32) (hN : N ≤ 120) (ha : a ≤ N) : CI l yX3_byteHere wsX3_byteHere ({ frames := 0, cells := 0, slots := 0, locals := 0 } : Room) D (tyL cI cB cO) [.ref t0] [(t0, .inr (3, [.int (nI N), .int (nI o), .int (nI a), .ref t1, .ref t2, .ref t3])), (t2, .inl (cB, 120, .inl T))] sz (fun (r : Int32) (_ : Unit) => r = bh T N a) (fun (u : Unit) => [(t0, .inr (3, [.int (nI N), .int (nI o), .int (nI a), .ref t1, .ref t2, .ref t3])), (t2, .inl (cB, 120, .inl T))]) 0 0 := by
  refine ct_of (cc := cX3_byteHere) (maxL := 1) (ret := some .int) (own := RX3) (Qc := QI D (fun (r : Int32) (_ : Unit) => r = bh T N a) (fun (u : Unit) => [(t0, .inr (3, [.int (nI N), .int (nI o), .int (nI a), .ref t1, .ref t2, .ref t3])), (t2, .inl (cB, 120, .inl T))])) (by decide) rfl rfl (Nat.le_of_ble_eq_true rfl) ?_
  intro pM eM sM mM below meth cM AM ls H locs hx hb hr hts hown hlocks hml hin hK hP hD hS hA hSt hl
  have hl : lv_has ls 1 [(0, .ref t0)] := hl
  refine lv_aload_n hx hb dX3_byteHere_0 rfl (lv_at hl 0 rfl) ?_
  refine va_get (D := D) (ci := 3) (v := .int (nI a)) (C := RX3) (T := TX3) (N := 6) hx hb hts in_X3_byteHere_3 hown hK hP 0 rfl rfl 2 (by decide) (hts (.fieldLink RX3 18 "HoseSpans$Text" "place" "I") (List.mem_of_getElem? (i := 1) (by decide +kernel))) (fun _ h9 => h9) rfl dX3_byteHere_1 ?_
  refine lv_aload_n hx hb dX3_byteHere_4 rfl (lv_at hl 0 rfl) ?_
  refine va_get (D := D) (ci := 3) (v := .int (nI N)) (C := RX3) (T := TX3) (N := 6) hx hb hts in_X3_byteHere_3 hown hK hP 0 rfl rfl 0 (by decide) (hts (.fieldLink RX3 9 "HoseSpans$Text" "length" "I") (List.mem_of_getElem? (i := 2) (by decide +kernel))) (fun _ h9 => h9) rfl dX3_byteHere_5 ?_
  refine lv_icmp_ge (tgt := 23) hx hb dX3_byteHere_8 (by decide) (fun c_1 => ?_) (fun c_1 => ?_)
  · have c_1 := Int32.not_lt.mpr c_1
    have c_1 : ¬ a < N := fun h => c_1 ((nI_ltI (a := a) (b := N) (by omega) (by omega)).mpr h)
    refine lv_iconst (v := -1) hx hb dX3_byteHere_23 (by decide) ?_
    refine e_i (u := ()) hx hb hr hlocks hP hD hS dX3_byteHere_24 ?_ ?_
    · rfl
    · first | exact (bh_t (by assumption)).symm | exact (bh_f (by assumption)).symm
  · have c_1 := Int32.not_le.mp c_1
    have c_1 : a < N := (nI_ltI (by omega) (by omega)).mp c_1
    refine lv_aload_n hx hb dX3_byteHere_11 rfl (lv_at hl 0 rfl) ?_
    refine va_get (D := D) (ci := 3) (v := .ref t2) (C := RX3) (T := TX3) (N := 6) hx hb hts in_X3_byteHere_3 hown hK hP 0 rfl rfl 4 (by decide) (hts (.fieldLink RX3 25 "HoseSpans$Text" "bytes" "[B") (List.mem_of_getElem? (i := 3) (by decide +kernel))) (fun _ h9 => h9) rfl dX3_byteHere_12 ?_
    refine lv_aload_n hx hb dX3_byteHere_15 rfl (lv_at hl 0 rfl) ?_
    refine va_get (D := D) (ci := 3) (v := .int (nI a)) (C := RX3) (T := TX3) (N := 6) hx hb hts in_X3_byteHere_3 hown hK hP 0 rfl rfl 2 (by decide) (hts (.fieldLink RX3 18 "HoseSpans$Text" "place" "I") (List.mem_of_getElem? (i := 1) (by decide +kernel))) (fun _ h9 => h9) rfl dX3_byteHere_16 ?_
    refine va_bald hx hb hK hP 1 1 rfl rfl (vp_in_nI (by omega) (by decide)) dX3_byteHere_19 ?_
    refine e_n (y := T a) (congrArg T (nI_clamp (by omega))) ?_
    refine lv_goto (tgt := 24) hx hb dX3_byteHere_20 (by decide) ?_
    refine e_i (u := ()) hx hb hr hlocks hP hD hS dX3_byteHere_24 ?_ ?_
    · rfl
    · first | exact (bh_t (by assumption)).symm | exact (bh_f (by assumption)).symm
set_option maxHeartbeats 4000000 in
set_option maxRecDepth 100000 in
theorem c_X3_isFigureHere (l : Launch) (D : va_G) (cI cB cO : ClassId) (sz : Nat) (t0 t1 t2 t3 N o a : Nat) (T : Nat → Int32) (hN : N ≤ 120) (ha : a ≤ N) : CI l yX3_isFigureHere wsX3_isFigureHere ({ frames := 1, cells := 0, slots := 0, locals := 22 } : Room) D (tyL cI cB cO) [.ref t0] [(t0, .inr (3, [.int (nI N), .int (nI o), .int (nI a), .ref t1, .ref t2, .ref t3])), (t2, .inl (cB, 120, .inl T))] sz (fun (r : Int32) (_ : Unit) => r = bI (fig T N a)) (fun (u : Unit) => [(t0, .inr (3, [.int (nI N), .int (nI o), .int (nI a), .ref t1, .ref t2, .ref t3])), (t2, .inl (cB, 120, .inl T))]) 0 0 := by
  refine ct_of (cc := cX3_isFigureHere) (maxL := 1) (ret := some .boolean) (own := RX3) (Qc := QI D (fun (r : Int32) (_ : Unit) => r = bI (fig T N a)) (fun (u : Unit) => [(t0, .inr (3, [.int (nI N), .int (nI o), .int (nI a), .ref t1, .ref t2, .ref t3])), (t2, .inl (cB, 120, .inl T))])) (by decide) rfl rfl (Nat.le_of_ble_eq_true rfl) ?_
  intro pM eM sM mM below meth cM AM ls H locs hx hb hr hts hown hlocks hml hin hK hP hD hS hA hSt hl
  have hl : lv_has ls 1 [(0, .ref t0)] := hl
  refine lv_aload_n hx hb dX3_isFigureHere_0 rfl (lv_at hl 0 rfl) ?_
  refine k_i (va_runV (As := []) (rest := []) ⟨hx, hb, hml, hown, hts⟩ (c_X3_byteHere l D cI cB cO H.size t0 t1 t2 t3 N o a T (by first | assumption | omega) (by first | assumption | omega)) (cwV 0 hts gX3_isFigureHere_X3_byteHere rfl rfl rfl (by decide +kernel) ⟨Nat.le_of_ble_eq_true rfl, Nat.le_of_ble_eq_true rfl⟩) (preV_of hK hP hD hS hA hSt [0, 1] (by decide) rfl 0 (ci := 3) rfl rfl) rfl rfl hl.1 rfl (lv_room (Nat.le_of_ble_eq_true rfl)) dX3_isFigureHere_1 ⟨Nat.le_of_ble_eq_true rfl, Nat.le_of_ble_eq_true rfl⟩) hP hD hS hA [0, 1] [] [0, 1] [] (fun (u_1 : Unit) => [(t0, .inr (3, [.int (nI N), .int (nI o), .int (nI a), .ref t1, .ref t2, .ref t3])), (t2, .inl (cB, 120, .inl T))]) rfl rfl (by decide) (by decide) (by decide) (fun _ => rfl) (fun r_1 u_1 H locs q_1 hP hD hS => ?_)
  obtain rfl : r_1 = bh T N a := q_1
  refine lv_bipush (v := 48) hx hb dX3_isFigureHere_4 (by decide) ?_
  refine lv_bipush (v := 57) hx hb dX3_isFigureHere_6 (by decide) ?_
  refine k_i (va_runSN (As := [.int (bh T N a), .int 48, .int 57]) (rest := []) ⟨hx, hb, hml, hown, hts⟩ (c_X4_within l D cI cB cO H.size (bh T N a) 48 57 ) ⟨va_cnB 3 hts gX3_isFigureHere_X4_within_n54 rfl rfl rfl hSt.1.2.1 (hts (.initialized RX4) (List.mem_of_getElem? (i := 10) (by decide +kernel))) (by decide +kernel) ⟨Nat.le_of_ble_eq_true rfl, Nat.le_of_ble_eq_true rfl⟩, (hts (.static yX4_within) (List.mem_of_getElem? (i := 9) (by decide +kernel))), trivial⟩ (preS_of hK hP hD hS hA hSt [] (by decide) rfl) rfl rfl hl.1 rfl (lv_room (Nat.le_of_ble_eq_true rfl)) dX3_isFigureHere_8 ⟨Nat.le_of_ble_eq_true rfl, Nat.le_of_ble_eq_true rfl⟩) hP hD hS hA [] [0, 1] [0, 1] [(t0, .inr (3, [.int (nI N), .int (nI o), .int (nI a), .ref t1, .ref t2, .ref t3])), (t2, .inl (cB, 120, .inl T))] (fun (u_2 : Unit) => [(t0, .inr (3, [.int (nI N), .int (nI o), .int (nI a), .ref t1, .ref t2, .ref t3])), (t2, .inl (cB, 120, .inl T))]) rfl rfl (by decide) (by decide) (by decide) (fun _ => rfl) (fun r_2 u_2 H locs q_2 hP hD hS => ?_)
  obtain rfl : r_2 = bI (inR (bh T N a) 48 57) := q_2
  refine e_z (u := ()) hx hb hr (by first | rfl | exact bI_nar _) hlocks hP hD hS dX3_isFigureHere_11 ?_ ?_
  · rfl
  · rfl
theorem in_X3_skipBlanks_3 : ∀ w ∈ wsX30, w ∈ wsX3_skipBlanks := fun _ h => List.mem_cons_of_mem _ (List.mem_append_right _ h)
set_option maxHeartbeats 4000000 in
set_option maxRecDepth 100000 in
theorem c_X3_skipBlanks (l : Launch) (D : va_G) (cI cB cO : ClassId) (sz : Nat) (t0 t1 t2 t3 N o a : Nat) (T : Nat → Int32) (hN : N ≤ 120) (ha : a ≤ N) : CV l yX3_skipBlanks wsX3_skipBlanks ({ frames := 0, cells := 0, slots := 0, locals := 0 } : Room) D (tyL cI cB cO) [.ref t0] [(t0, .inr (3, [.int (nI N), .int (nI o), .int (nI a), .ref t1, .ref t2, .ref t3])), (t2, .inl (cB, 120, .inl T))] sz (fun (_ : Unit) => True) (fun (u : Unit) => [(t0, .inr (3, [.int (nI N), .int (nI o), .int (nI (skB T N a)), .ref t1, .ref t2, .ref t3])), (t2, .inl (cB, 120, .inl T))]) 0 0 := by
  refine ct_of (cc := cX3_skipBlanks) (maxL := 1) (ret := none) (own := RX3) (Qc := QV D (fun (_ : Unit) => True) (fun (u : Unit) => [(t0, .inr (3, [.int (nI N), .int (nI o), .int (nI (skB T N a)), .ref t1, .ref t2, .ref t3])), (t2, .inl (cB, 120, .inl T))])) (by decide) rfl rfl (Nat.le_of_ble_eq_true rfl) ?_
  intro pM eM sM mM below meth cM AM ls H locs hx hb hr hts hown hlocks hml hin hK hP hD hS hA hSt hl
  have hl : lv_has ls 1 [(0, .ref t0)] := hl
  have lp_1 : ∀ (nn : Nat) (x : Nat), (x ≤ N) → (skB T N x = skB T N a) → (N - x) < nn → ∀ (H : Heap) (locs : List Loc), va_P D vwCl [(t0, .inr (3, [.int (nI N), .int (nI o), .int (nI x), .ref t1, .ref t2, .ref t3])), (t2, .inl (cB, 120, .inl T))] H → va_D AM [(t0, .inr (3, [.int (nI N), .int (nI o), .int (nI x), .ref t1, .ref t2, .ref t3])), (t2, .inl (cB, 120, .inl T))] → va_S AM sM.heap H locs → ∀ (ls : Array Slot), lv_has ls 1 [(0, .ref t0)] → W pM l eM ({ frames := 0, cells := 0, slots := 0, locals := 0 } : Room) sM mM ([.ref t0] : List Value).toArray below meth cM H locs 0 0 (MQ below (QV D (fun (_ : Unit) => True) (fun (u : Unit) => [(t0, .inr (3, [.int (nI N), .int (nI o), .int (nI (skB T N a)), .ref t1, .ref t2, .ref t3])), (t2, .inl (cB, 120, .inl T))]) AM) ([.ref t0] : List Value).toArray sM 0 0 AM) (F0 mM 0 ls []) := by
    intro nn
    induction nn with
    | zero =>
      intro x hxx hI hm
      exact absurd hm (Nat.not_lt_zero _)
    | succ nn ih_2 =>
      intro x hxx hI hm H locs hP hD hS ls hl
      refine lv_aload_n hx hb dX3_skipBlanks_0 rfl (lv_at hl 0 rfl) ?_
      refine va_get (D := D) (ci := 3) (v := .int (nI x)) (C := RX3) (T := TX3) (N := 6) hx hb hts in_X3_skipBlanks_3 hown hK hP 0 rfl rfl 2 (by decide) (hts (.fieldLink RX3 18 "HoseSpans$Text" "place" "I") (List.mem_of_getElem? (i := 1) (by decide +kernel))) (fun _ h9 => h9) rfl dX3_skipBlanks_1 ?_
      refine lv_aload_n hx hb dX3_skipBlanks_4 rfl (lv_at hl 0 rfl) ?_
      refine va_get (D := D) (ci := 3) (v := .int (nI N)) (C := RX3) (T := TX3) (N := 6) hx hb hts in_X3_skipBlanks_3 hown hK hP 0 rfl rfl 0 (by decide) (hts (.fieldLink RX3 9 "HoseSpans$Text" "length" "I") (List.mem_of_getElem? (i := 2) (by decide +kernel))) (fun _ h9 => h9) rfl dX3_skipBlanks_5 ?_
      refine lv_icmp_ge (tgt := 38) hx hb dX3_skipBlanks_8 (by decide) (fun c_3 => ?_) (fun c_3 => ?_)
      · have c_3 := Int32.not_lt.mpr c_3
        have c_3 : ¬ x < N := fun h => c_3 ((nI_ltI (a := x) (b := N) (by omega) (by omega)).mpr h)
        rw [show (.int (nI x) : Value) = .int (nI (skB T N a)) from congrArg Value.int (congrArg nI (by first | exact (skB_e (fun h => absurd h.1 (by assumption))).symm.trans hI | exact (skB_e (fun h => absurd h.2 (by assumption))).symm.trans hI))] at hP hD
        have hP : va_P D vwCl [(t0, .inr (3, [.int (nI N), .int (nI o), .int (nI (skB T N a)), .ref t1, .ref t2, .ref t3])), (t2, .inl (cB, 120, .inl T))] H := hP
        have hD : va_D AM [(t0, .inr (3, [.int (nI N), .int (nI o), .int (nI (skB T N a)), .ref t1, .ref t2, .ref t3])), (t2, .inl (cB, 120, .inl T))] := hD
        refine e_v (u := ()) hx hb hr hlocks hP hD hS dX3_skipBlanks_38 ?_ ?_
        · rfl
        · trivial
      · have c_3 := Int32.not_le.mp c_3
        have c_3 : x < N := (nI_ltI (by omega) (by omega)).mp c_3
        refine lv_aload_n hx hb dX3_skipBlanks_11 rfl (lv_at hl 0 rfl) ?_
        refine va_get (D := D) (ci := 3) (v := .ref t2) (C := RX3) (T := TX3) (N := 6) hx hb hts in_X3_skipBlanks_3 hown hK hP 0 rfl rfl 4 (by decide) (hts (.fieldLink RX3 25 "HoseSpans$Text" "bytes" "[B") (List.mem_of_getElem? (i := 3) (by decide +kernel))) (fun _ h9 => h9) rfl dX3_skipBlanks_12 ?_
        refine lv_aload_n hx hb dX3_skipBlanks_15 rfl (lv_at hl 0 rfl) ?_
        refine va_get (D := D) (ci := 3) (v := .int (nI x)) (C := RX3) (T := TX3) (N := 6) hx hb hts in_X3_skipBlanks_3 hown hK hP 0 rfl rfl 2 (by decide) (hts (.fieldLink RX3 18 "HoseSpans$Text" "place" "I") (List.mem_of_getElem? (i := 1) (by decide +kernel))) (fun _ h9 => h9) rfl dX3_skipBlanks_16 ?_
        refine va_bald hx hb hK hP 1 1 rfl rfl (vp_in_nI (by omega) (by decide)) dX3_skipBlanks_19 ?_
        refine e_n (y := T x) (congrArg T (nI_clamp (by omega))) ?_
        refine lv_bipush (v := 32) hx hb dX3_skipBlanks_20 (by decide) ?_
        refine lv_icmp_ne (tgt := 38) hx hb dX3_skipBlanks_22 (by decide) (fun c_4 => ?_) (fun c_4 => ?_)
        · rw [show (.int (nI x) : Value) = .int (nI (skB T N a)) from congrArg Value.int (congrArg nI (by first | exact (skB_e (fun h => absurd h.1 (by assumption))).symm.trans hI | exact (skB_e (fun h => absurd h.2 (by assumption))).symm.trans hI))] at hP hD
          have hP : va_P D vwCl [(t0, .inr (3, [.int (nI N), .int (nI o), .int (nI (skB T N a)), .ref t1, .ref t2, .ref t3])), (t2, .inl (cB, 120, .inl T))] H := hP
          have hD : va_D AM [(t0, .inr (3, [.int (nI N), .int (nI o), .int (nI (skB T N a)), .ref t1, .ref t2, .ref t3])), (t2, .inl (cB, 120, .inl T))] := hD
          refine e_v (u := ()) hx hb hr hlocks hP hD hS dX3_skipBlanks_38 ?_ ?_
          · rfl
          · trivial
        · refine lv_aload_n hx hb dX3_skipBlanks_25 rfl (lv_at hl 0 rfl) ?_
          refine lv_dup hx hb dX3_skipBlanks_26 rfl ?_
          refine va_get (D := D) (ci := 3) (v := .int (nI x)) (C := RX3) (T := TX3) (N := 6) hx hb hts in_X3_skipBlanks_3 hown hK hP 0 rfl rfl 2 (by decide) (hts (.fieldLink RX3 18 "HoseSpans$Text" "place" "I") (List.mem_of_getElem? (i := 1) (by decide +kernel))) (fun _ h9 => h9) rfl dX3_skipBlanks_27 ?_
          refine lv_iconst (v := 1) hx hb dX3_skipBlanks_30 (by decide) ?_
          refine lv_iadd hx hb dX3_skipBlanks_31 ?_
          refine e_n (y := nI (x + 1)) (nI_add x 1) ?_
          refine va_put (D := D) (ci := 3) (v := .int (nI (x + 1))) (ty := .int) (C := RX3) (T := TX3) (N := 6) hx hb hts in_X3_skipBlanks_3 tyX3 tyX3_ok nmX3 hown hK hP hD hS 0 rfl rfl 2 (by decide) (hts (.fieldLink RX3 18 "HoseSpans$Text" "place" "I") (List.mem_of_getElem? (i := 1) (by decide +kernel))) (fun _ h9 => h9) rfl (by decide +kernel) rfl rfl (Nat.le_of_ble_eq_true rfl) dX3_skipBlanks_32 (fun H locs hP hD hS => ?_)
          have hP : va_P D vwCl [(t0, .inr (3, [.int (nI N), .int (nI o), .int (nI (x + 1)), .ref t1, .ref t2, .ref t3])), (t2, .inl (cB, 120, .inl T))] H := hP
          have hD : va_D AM [(t0, .inr (3, [.int (nI N), .int (nI o), .int (nI (x + 1)), .ref t1, .ref t2, .ref t3])), (t2, .inl (cB, 120, .inl T))] := hD
          refine lv_goto (tgt := 0) hx hb dX3_skipBlanks_35 (by decide) ?_
          have hl9 : lv_has ls 1 [(0, .ref t0)] := lv_sub hl [0] rfl
          exact ih_2 (x + 1) (by first | assumption | omega) (by rw [skB_s (by assumption) (by assumption)]; exact hI) (by omega) H locs hP hD hS ls hl9
  have hl9 : lv_has ls 1 [(0, .ref t0)] := lv_sub hl [0] rfl
  exact lp_1 ((N - a) + 1) a (by first | assumption | omega) (by rfl) (Nat.lt_succ_self _) H locs hP hD hS ls hl9
theorem in_X3_put_3 : ∀ w ∈ wsX30, w ∈ wsX3_put := fun _ h => List.mem_cons_of_mem _ (List.mem_append_right _ h)
set_option maxHeartbeats 4000000 in
set_option maxRecDepth 100000 in
theorem c_X3_put (l : Launch) (D : va_G) (cI cB cO : ClassId) (sz : Nat) (t0 t1 t2 t3 N o a : Nat) (T : Nat → Int32) (c : Int32) (hN : N < 120) (hc : inR c 0 127 = true) : CV l yX3_put wsX3_put ({ frames := 0, cells := 0, slots := 0, locals := 0 } : Room) D (tyL cI cB cO) [.ref t0, .int c] [(t0, .inr (3, [.int (nI N), .int (nI o), .int (nI a), .ref t1, .ref t2, .ref t3])), (t2, .inl (cB, 120, .inl T))] sz (fun (_ : Unit) => True) (fun (u : Unit) => [(t0, .inr (3, [.int (nI (N + 1)), .int (nI o), .int (nI a), .ref t1, .ref t2, .ref t3])), (t2, .inl (cB, 120, .inl (upd T N c)))]) 0 0 := by
  refine ct_of (cc := cX3_put) (maxL := 2) (ret := none) (own := RX3) (Qc := QV D (fun (_ : Unit) => True) (fun (u : Unit) => [(t0, .inr (3, [.int (nI (N + 1)), .int (nI o), .int (nI a), .ref t1, .ref t2, .ref t3])), (t2, .inl (cB, 120, .inl (upd T N c)))])) (by decide) rfl rfl (Nat.le_of_ble_eq_true rfl) ?_
  intro pM eM sM mM below meth cM AM ls H locs hx hb hr hts hown hlocks hml hin hK hP hD hS hA hSt hl
  have hl : lv_has ls 2 [(0, .ref t0), (1, .int c)] := hl
  refine lv_aload_n hx hb dX3_put_0 rfl (lv_at hl 0 rfl) ?_
  refine va_get (D := D) (ci := 3) (v := .ref t2) (C := RX3) (T := TX3) (N := 6) hx hb hts in_X3_put_3 hown hK hP 0 rfl rfl 4 (by decide) (hts (.fieldLink RX3 25 "HoseSpans$Text" "bytes" "[B") (List.mem_of_getElem? (i := 1) (by decide +kernel))) (fun _ h9 => h9) rfl dX3_put_1 ?_
  refine lv_aload_n hx hb dX3_put_4 rfl (lv_at hl 0 rfl) ?_
  refine va_get (D := D) (ci := 3) (v := .int (nI N)) (C := RX3) (T := TX3) (N := 6) hx hb hts in_X3_put_3 hown hK hP 0 rfl rfl 0 (by decide) (hts (.fieldLink RX3 9 "HoseSpans$Text" "length" "I") (List.mem_of_getElem? (i := 2) (by decide +kernel))) (fun _ h9 => h9) rfl dX3_put_5 ?_
  refine lv_iload_n hx hb dX3_put_8 rfl (lv_at hl 1 rfl) ?_
  refine lv_i2b (v := (Int32.toInt8 c).toInt32) hx hb dX3_put_9 rfl ?_
  refine va_bast hx hb hK hP hD hS 1 1 rfl rfl (vp_in_nI (by omega) (by decide)) dX3_put_10 (fun H locs hP hD hS => ?_)
  rw [show Int32.toNatClampNeg (nI N) = N from (nI_clamp (by omega))] at hP hD
  rw [show upd T N (vp_nar .byte ((Int32.toInt8 c).toInt32)) = upd T N c from (congrArg (upd T N) (byte_c hc))] at hP hD
  have hP : va_P D vwCl [(t0, .inr (3, [.int (nI N), .int (nI o), .int (nI a), .ref t1, .ref t2, .ref t3])), (t2, .inl (cB, 120, .inl (upd T N c)))] H := hP
  have hD : va_D AM [(t0, .inr (3, [.int (nI N), .int (nI o), .int (nI a), .ref t1, .ref t2, .ref t3])), (t2, .inl (cB, 120, .inl (upd T N c)))] := hD
  refine lv_aload_n hx hb dX3_put_11 rfl (lv_at hl 0 rfl) ?_
  refine lv_dup hx hb dX3_put_12 rfl ?_
  refine va_get (D := D) (ci := 3) (v := .int (nI N)) (C := RX3) (T := TX3) (N := 6) hx hb hts in_X3_put_3 hown hK hP 0 rfl rfl 0 (by decide) (hts (.fieldLink RX3 9 "HoseSpans$Text" "length" "I") (List.mem_of_getElem? (i := 2) (by decide +kernel))) (fun _ h9 => h9) rfl dX3_put_13 ?_
  refine lv_iconst (v := 1) hx hb dX3_put_16 (by decide) ?_
  refine lv_iadd hx hb dX3_put_17 ?_
  refine e_n (y := nI (N + 1)) (nI_add N 1) ?_
  refine va_put (D := D) (ci := 3) (v := .int (nI (N + 1))) (ty := .int) (C := RX3) (T := TX3) (N := 6) hx hb hts in_X3_put_3 tyX3 tyX3_ok nmX3 hown hK hP hD hS 0 rfl rfl 0 (by decide) (hts (.fieldLink RX3 9 "HoseSpans$Text" "length" "I") (List.mem_of_getElem? (i := 2) (by decide +kernel))) (fun _ h9 => h9) rfl (by decide +kernel) rfl rfl (Nat.le_of_ble_eq_true rfl) dX3_put_18 (fun H locs hP hD hS => ?_)
  have hP : va_P D vwCl [(t0, .inr (3, [.int (nI (N + 1)), .int (nI o), .int (nI a), .ref t1, .ref t2, .ref t3])), (t2, .inl (cB, 120, .inl (upd T N c)))] H := hP
  have hD : va_D AM [(t0, .inr (3, [.int (nI (N + 1)), .int (nI o), .int (nI a), .ref t1, .ref t2, .ref t3])), (t2, .inl (cB, 120, .inl (upd T N c)))] := hD
  refine e_v (u := ()) hx hb hr hlocks hP hD hS dX3_put_21 ?_ ?_
  · rfl
  · trivial
theorem in_X3_number_3 : ∀ w ∈ wsX30, w ∈ wsX3_number := fun _ h => List.mem_cons_of_mem _ (List.mem_append_right _ h)
set_option maxHeartbeats 4000000 in
set_option maxRecDepth 100000 in
theorem c_X3_number (l : Launch) (D : va_G) (cI cB cO : ClassId) (sz : Nat) (t0 t1 t2 t3 N o a : Nat) (Nm : Nat → Int32) (x w : Nat) (hi : x * 4 + w < 240) : CI l yX3_number wsX3_number ({ frames := 0, cells := 0, slots := 0, locals := 0 } : Room) D (tyL cI cB cO) [.ref t0, .int (nI x), .int (nI w)] [(t0, .inr (3, [.int (nI N), .int (nI o), .int (nI a), .ref t1, .ref t2, .ref t3])), (t3, .inl (cI, 240, .inl Nm))] sz (fun (r : Int32) (_ : Unit) => r = Nm (x * 4 + w)) (fun (u : Unit) => [(t0, .inr (3, [.int (nI N), .int (nI o), .int (nI a), .ref t1, .ref t2, .ref t3])), (t3, .inl (cI, 240, .inl Nm))]) 0 0 := by
  refine ct_of (cc := cX3_number) (maxL := 3) (ret := some .int) (own := RX3) (Qc := QI D (fun (r : Int32) (_ : Unit) => r = Nm (x * 4 + w)) (fun (u : Unit) => [(t0, .inr (3, [.int (nI N), .int (nI o), .int (nI a), .ref t1, .ref t2, .ref t3])), (t3, .inl (cI, 240, .inl Nm))])) (by decide) rfl rfl (Nat.le_of_ble_eq_true rfl) ?_
  intro pM eM sM mM below meth cM AM ls H locs hx hb hr hts hown hlocks hml hin hK hP hD hS hA hSt hl
  have hl : lv_has ls 3 [(0, .ref t0), (1, .int (nI x)), (2, .int (nI w))] := hl
  refine lv_aload_n hx hb dX3_number_0 rfl (lv_at hl 0 rfl) ?_
  refine va_get (D := D) (ci := 3) (v := .ref t3) (C := RX3) (T := TX3) (N := 6) hx hb hts in_X3_number_3 hown hK hP 0 rfl rfl 5 (by decide) (hts (.fieldLink RX3 28 "HoseSpans$Text" "numbers" "[I") (List.mem_of_getElem? (i := 1) (by decide +kernel))) (fun _ h9 => h9) rfl dX3_number_1 ?_
  refine lv_iload_n hx hb dX3_number_4 rfl (lv_at hl 1 rfl) ?_
  refine lv_iconst (v := 4) hx hb dX3_number_5 (by decide) ?_
  refine lv_imul hx hb dX3_number_6 ?_
  refine e_n (y := nI (x * 4)) (pk_mul x 4) ?_
  refine lv_iload_n hx hb dX3_number_7 rfl (lv_at hl 2 rfl) ?_
  refine lv_iadd hx hb dX3_number_8 ?_
  refine e_n (y := nI (x * 4 + w)) (nI_add (x * 4) w) ?_
  refine va_iald hx hb hK hP 1 0 rfl rfl (vp_in_nI (by omega) (by decide)) dX3_number_9 ?_
  refine e_n (y := Nm (x * 4 + w)) (congrArg Nm (nI_clamp (by omega))) ?_
  refine e_i (u := ()) hx hb hr hlocks hP hD hS dX3_number_10 ?_ ?_
  · rfl
  · rfl
set_option maxHeartbeats 4000000 in
set_option maxRecDepth 100000 in
theorem c_X3_numbersOf (l : Launch) (D : va_G) (cI cB cO : ClassId) (sz : Nat) (c : Int32)  : CI l yX3_numbersOf wsX3_numbersOf ({ frames := 0, cells := 0, slots := 0, locals := 0 } : Room) D (tyL cI cB cO) [.int c] [] sz (fun (r : Int32) (_ : Unit) => r = nWi c) (fun (u : Unit) => []) 0 0 := by
  refine ct_of (cc := cX3_numbersOf) (maxL := 1) (ret := some .int) (own := RX3) (Qc := QI D (fun (r : Int32) (_ : Unit) => r = nWi c) (fun (u : Unit) => [])) (by decide) rfl rfl (Nat.le_of_ble_eq_true rfl) ?_
  intro pM eM sM mM below meth cM AM ls H locs hx hb hr hts hown hlocks hml hin hK hP hD hS hA hSt hl
  have hl : lv_has ls 1 [(0, .int c)] := hl
  refine lv_iload_n hx hb dX3_numbersOf_0 rfl (lv_at hl 0 rfl) ?_
  by_cases k_1 : c = 99
  · refine lv_lookup (off := 65) (tgt := 66) hx hb dX3_numbersOf_1 (by decide) (by rw [k_1]; decide) (by decide) ?_
    refine lv_iconst (v := 0) hx hb dX3_numbersOf_66 (by decide) ?_
    refine e_i (u := ()) hx hb hr hlocks hP hD hS dX3_numbersOf_67 ?_ ?_
    · rfl
    · first | (rw [show c = 99 by assumption]; decide) | (rw [show c = 104 by assumption]; decide) | (rw [show c = 107 by assumption]; decide) | (rw [show c = 109 by assumption]; decide) | (rw [show c = 112 by assumption]; decide) | (rw [show c = 120 by assumption]; decide) | exact nWi_d (by assumption) (by assumption) (by assumption) (by assumption) (by assumption) (by assumption)
  by_cases k_2 : c = 104
  · refine lv_lookup (off := 59) (tgt := 60) hx hb dX3_numbersOf_1 (by decide) (by rw [k_2]; decide) (by decide) ?_
    refine lv_iconst (v := 4) hx hb dX3_numbersOf_60 (by decide) ?_
    refine e_i (u := ()) hx hb hr hlocks hP hD hS dX3_numbersOf_61 ?_ ?_
    · rfl
    · first | (rw [show c = 99 by assumption]; decide) | (rw [show c = 104 by assumption]; decide) | (rw [show c = 107 by assumption]; decide) | (rw [show c = 109 by assumption]; decide) | (rw [show c = 112 by assumption]; decide) | (rw [show c = 120 by assumption]; decide) | exact nWi_d (by assumption) (by assumption) (by assumption) (by assumption) (by assumption) (by assumption)
  by_cases k_3 : c = 107
  · refine lv_lookup (off := 61) (tgt := 62) hx hb dX3_numbersOf_1 (by decide) (by rw [k_3]; decide) (by decide) ?_
    refine lv_iconst (v := 2) hx hb dX3_numbersOf_62 (by decide) ?_
    refine e_i (u := ()) hx hb hr hlocks hP hD hS dX3_numbersOf_63 ?_ ?_
    · rfl
    · first | (rw [show c = 99 by assumption]; decide) | (rw [show c = 104 by assumption]; decide) | (rw [show c = 107 by assumption]; decide) | (rw [show c = 109 by assumption]; decide) | (rw [show c = 112 by assumption]; decide) | (rw [show c = 120 by assumption]; decide) | exact nWi_d (by assumption) (by assumption) (by assumption) (by assumption) (by assumption) (by assumption)
  by_cases k_4 : c = 109
  · refine lv_lookup (off := 63) (tgt := 64) hx hb dX3_numbersOf_1 (by decide) (by rw [k_4]; decide) (by decide) ?_
    refine lv_iconst (v := 1) hx hb dX3_numbersOf_64 (by decide) ?_
    refine e_i (u := ()) hx hb hr hlocks hP hD hS dX3_numbersOf_65 ?_ ?_
    · rfl
    · first | (rw [show c = 99 by assumption]; decide) | (rw [show c = 104 by assumption]; decide) | (rw [show c = 107 by assumption]; decide) | (rw [show c = 109 by assumption]; decide) | (rw [show c = 112 by assumption]; decide) | (rw [show c = 120 by assumption]; decide) | exact nWi_d (by assumption) (by assumption) (by assumption) (by assumption) (by assumption) (by assumption)
  by_cases k_5 : c = 112
  · refine lv_lookup (off := 63) (tgt := 64) hx hb dX3_numbersOf_1 (by decide) (by rw [k_5]; decide) (by decide) ?_
    refine lv_iconst (v := 1) hx hb dX3_numbersOf_64 (by decide) ?_
    refine e_i (u := ()) hx hb hr hlocks hP hD hS dX3_numbersOf_65 ?_ ?_
    · rfl
    · first | (rw [show c = 99 by assumption]; decide) | (rw [show c = 104 by assumption]; decide) | (rw [show c = 107 by assumption]; decide) | (rw [show c = 109 by assumption]; decide) | (rw [show c = 112 by assumption]; decide) | (rw [show c = 120 by assumption]; decide) | exact nWi_d (by assumption) (by assumption) (by assumption) (by assumption) (by assumption) (by assumption)
  by_cases k_6 : c = 120
  · refine lv_lookup (off := 63) (tgt := 64) hx hb dX3_numbersOf_1 (by decide) (by rw [k_6]; decide) (by decide) ?_
    refine lv_iconst (v := 1) hx hb dX3_numbersOf_64 (by decide) ?_
    refine e_i (u := ()) hx hb hr hlocks hP hD hS dX3_numbersOf_65 ?_ ?_
    · rfl
    · first | (rw [show c = 99 by assumption]; decide) | (rw [show c = 104 by assumption]; decide) | (rw [show c = 107 by assumption]; decide) | (rw [show c = 109 by assumption]; decide) | (rw [show c = 112 by assumption]; decide) | (rw [show c = 120 by assumption]; decide) | exact nWi_d (by assumption) (by assumption) (by assumption) (by assumption) (by assumption) (by assumption)
  have nk_1 : Int32.toInt c ≠ 99 := ne_ti (by decide) k_1
  have nk_2 : Int32.toInt c ≠ 104 := ne_ti (by decide) k_2
  have nk_3 : Int32.toInt c ≠ 107 := ne_ti (by decide) k_3
  have nk_4 : Int32.toInt c ≠ 109 := ne_ti (by decide) k_4
  have nk_5 : Int32.toInt c ≠ 112 := ne_ti (by decide) k_5
  have nk_6 : Int32.toInt c ≠ 120 := ne_ti (by decide) k_6
  refine lv_lookup (off := 67) (tgt := 68) hx hb dX3_numbersOf_1 (by decide) (by simp [Op.lookupswitch.offset, nk_1, nk_2, nk_3, nk_4, nk_5, nk_6, Ne.symm nk_1, Ne.symm nk_2, Ne.symm nk_3, Ne.symm nk_4, Ne.symm nk_5, Ne.symm nk_6]) (by decide) ?_
  refine lv_iconst (v := -1) hx hb dX3_numbersOf_68 (by decide) ?_
  refine e_i (u := ()) hx hb hr hlocks hP hD hS dX3_numbersOf_69 ?_ ?_
  · rfl
  · first | (rw [show c = 99 by assumption]; decide) | (rw [show c = 104 by assumption]; decide) | (rw [show c = 107 by assumption]; decide) | (rw [show c = 109 by assumption]; decide) | (rw [show c = 112 by assumption]; decide) | (rw [show c = 120 by assumption]; decide) | exact nWi_d (by assumption) (by assumption) (by assumption) (by assumption) (by assumption) (by assumption)
theorem in_X3_takesNumber_3 : ∀ w ∈ wsX30, w ∈ wsX3_takesNumber := fun _ h => List.mem_cons_of_mem _ (List.mem_append_right _ h)
set_option maxHeartbeats 4000000 in
set_option maxRecDepth 100000 in
theorem c_X3_takesNumber (l : Launch) (D : va_G) (cI cB cO : ClassId) (sz : Nat) (t0 t1 t2 t3 N o a : Nat) (T : Nat → Int32) (w : Nat) (may : Bool) (Nm : Nat → Int32) (hN : N ≤ 120) (ha : a ≤ N) (ho : o * 4 + w < 240) : CI l yX3_takesNumber wsX3_takesNumber ({ frames := 2, cells := 0, slots := 0, locals := 42 } : Room) D (tyL cI cB cO) [.ref t0, .int (nI w), .int (bI may)] [(t0, .inr (3, [.int (nI N), .int (nI o), .int (nI a), .ref t1, .ref t2, .ref t3])), (t2, .inl (cB, 120, .inl T)), (t3, .inl (cI, 240, .inl Nm))] sz (fun (r : Int32) (_ : Unit) => r = bI (nOk T N may a)) (fun (u : Unit) => [(t0, .inr (3, [.int (nI N), .int (nI o), .int (nI (nEnd T N may a)), .ref t1, .ref t2, .ref t3])), (t2, .inl (cB, 120, .inl T)), (t3, .inl (cI, 240, .inl (if fig T N (nSt T N may a) = true then upd Nm (o * 4 + w) (nVal T N may a) else Nm)))]) 0 0 := by
  refine ct_of (cc := cX3_takesNumber) (maxL := 6) (ret := some .boolean) (own := RX3) (Qc := QI D (fun (r : Int32) (_ : Unit) => r = bI (nOk T N may a)) (fun (u : Unit) => [(t0, .inr (3, [.int (nI N), .int (nI o), .int (nI (nEnd T N may a)), .ref t1, .ref t2, .ref t3])), (t2, .inl (cB, 120, .inl T)), (t3, .inl (cI, 240, .inl (if fig T N (nSt T N may a) = true then upd Nm (o * 4 + w) (nVal T N may a) else Nm)))])) (by decide) rfl rfl (Nat.le_of_ble_eq_true rfl) ?_
  intro pM eM sM mM below meth cM AM ls H locs hx hb hr hts hown hlocks hml hin hK hP hD hS hA hSt hl
  have hl : lv_has ls 6 [(0, .ref t0), (1, .int (nI w)), (2, .int (bI may))] := hl
  have jn_1 : ∀ (H : Heap) (locs : List Loc), va_P D vwCl [(t0, .inr (3, [.int (nI N), .int (nI o), .int (nI a), .ref t1, .ref t2, .ref t3])), (t2, .inl (cB, 120, .inl T)), (t3, .inl (cI, 240, .inl Nm))] H → va_D AM [(t0, .inr (3, [.int (nI N), .int (nI o), .int (nI a), .ref t1, .ref t2, .ref t3])), (t2, .inl (cB, 120, .inl T)), (t3, .inl (cI, 240, .inl Nm))] → va_S AM sM.heap H locs → ∀ (ls : Array Slot), lv_has ls 6 [(0, .ref t0), (1, .int (nI w)), (2, .int (bI may))] → W pM l eM ({ frames := 2, cells := 0, slots := 0, locals := 42 } : Room) sM mM ([.ref t0, .int (nI w), .int (bI may)] : List Value).toArray below meth cM H locs 0 0 (MQ below (QI D (fun (r : Int32) (_ : Unit) => r = bI (nOk T N may a)) (fun (u : Unit) => [(t0, .inr (3, [.int (nI N), .int (nI o), .int (nI (nEnd T N may a)), .ref t1, .ref t2, .ref t3])), (t2, .inl (cB, 120, .inl T)), (t3, .inl (cI, 240, .inl (if fig T N (nSt T N may a) = true then upd Nm (o * 4 + w) (nVal T N may a) else Nm)))]) AM) ([.ref t0, .int (nI w), .int (bI may)] : List Value).toArray sM 0 0 AM) (F0 mM 18 ls [.int (bI (neg T N may a))]) := by
    intro  H locs hP hD hS ls hl
    refine lv_istore_n (lv' := [(3, .int (bI (neg T N may a))), (0, .ref t0), (1, .int (nI w)), (2, .int (bI may))]) hx hb dX3_takesNumber_18 rfl hl (by decide) rfl (fun ls hl => ?_)
    have jn_2 : ∀ (H : Heap) (locs : List Loc), va_P D vwCl [(t0, .inr (3, [.int (nI N), .int (nI o), .int (nI (nSt T N may a)), .ref t1, .ref t2, .ref t3])), (t2, .inl (cB, 120, .inl T)), (t3, .inl (cI, 240, .inl Nm))] H → va_D AM [(t0, .inr (3, [.int (nI N), .int (nI o), .int (nI (nSt T N may a)), .ref t1, .ref t2, .ref t3])), (t2, .inl (cB, 120, .inl T)), (t3, .inl (cI, 240, .inl Nm))] → va_S AM sM.heap H locs → ∀ (ls : Array Slot), lv_has ls 6 [(0, .ref t0), (1, .int (nI w)), (3, .int (bI (neg T N may a)))] → W pM l eM ({ frames := 2, cells := 0, slots := 0, locals := 42 } : Room) sM mM ([.ref t0, .int (nI w), .int (bI may)] : List Value).toArray below meth cM H locs 0 0 (MQ below (QI D (fun (r : Int32) (_ : Unit) => r = bI (nOk T N may a)) (fun (u : Unit) => [(t0, .inr (3, [.int (nI N), .int (nI o), .int (nI (nEnd T N may a)), .ref t1, .ref t2, .ref t3])), (t2, .inl (cB, 120, .inl T)), (t3, .inl (cI, 240, .inl (if fig T N (nSt T N may a) = true then upd Nm (o * 4 + w) (nVal T N may a) else Nm)))]) AM) ([.ref t0, .int (nI w), .int (bI may)] : List Value).toArray sM 0 0 AM) (F0 mM 33 ls []) := by
      intro  H locs hP hD hS ls hl
      refine lv_aload_n hx hb dX3_takesNumber_33 rfl (lv_at hl 0 rfl) ?_
      refine k_i (va_runV (As := []) (rest := []) ⟨hx, hb, hml, hown, hts⟩ (c_X3_isFigureHere l D cI cB cO H.size t0 t1 t2 t3 N o (nSt T N may a) T (by first | assumption | omega | exact (nSt_N ha).2 | exact (nEnd_N ha).2) (by first | assumption | omega | exact (nSt_N ha).2 | exact (nEnd_N ha).2)) (cwV 0 hts gX3_takesNumber_X3_isFigureHere rfl rfl rfl (by decide +kernel) ⟨Nat.le_of_ble_eq_true rfl, Nat.le_of_ble_eq_true rfl⟩) (preV_of hK hP hD hS hA hSt [0, 1] (by decide) rfl 0 (ci := 3) rfl rfl) rfl rfl hl.1 rfl (lv_room (Nat.le_of_ble_eq_true rfl)) dX3_takesNumber_34 ⟨Nat.le_of_ble_eq_true rfl, Nat.le_of_ble_eq_true rfl⟩) hP hD hS hA [0, 1] [2] [1, 2, 0] [(t3, .inl (cI, 240, .inl Nm))] (fun (u_3 : Unit) => [(t0, .inr (3, [.int (nI N), .int (nI o), .int (nI (nSt T N may a)), .ref t1, .ref t2, .ref t3])), (t2, .inl (cB, 120, .inl T)), (t3, .inl (cI, 240, .inl Nm))]) rfl rfl (by decide) (by decide) (by decide) (fun _ => rfl) (fun r_3 u_3 H locs q_3 hP hD hS => ?_)
      obtain rfl : r_3 = bI (fig T N (nSt T N may a)) := q_3
      refine lv_if_ne (tgt := 42) hx hb dX3_takesNumber_37 (by decide) (fun c_4 => ?_) (fun c_4 => ?_)
      · have c_4 := bI_n0.mp c_4
        have hfg := c_4
        refine lv_iconst (v := 0) hx hb dX3_takesNumber_42 (by decide) ?_
        refine lv_istore (lv' := [(4, .int 0), (0, .ref t0), (1, .int (nI w)), (3, .int (bI (neg T N may a)))]) hx hb dX3_takesNumber_43 hl (by decide) rfl (fun ls hl => ?_)
        refine lv_iconst (v := 0) hx hb dX3_takesNumber_45 (by decide) ?_
        refine lv_istore (lv' := [(5, .int 0), (4, .int 0), (0, .ref t0), (1, .int (nI w)), (3, .int (bI (neg T N may a)))]) hx hb dX3_takesNumber_46 hl (by decide) rfl (fun ls hl => ?_)
        have lp_5 : ∀ (nn : Nat) (x y : Nat) (v : Int32), (x ≤ 3) → (y ≤ N) → (dg T N (3 - x) y v = dg T N 3 (nSt T N may a) 0) → (3 - x) < nn → ∀ (H : Heap) (locs : List Loc), va_P D vwCl [(t0, .inr (3, [.int (nI N), .int (nI o), .int (nI y), .ref t1, .ref t2, .ref t3])), (t2, .inl (cB, 120, .inl T)), (t3, .inl (cI, 240, .inl Nm))] H → va_D AM [(t0, .inr (3, [.int (nI N), .int (nI o), .int (nI y), .ref t1, .ref t2, .ref t3])), (t2, .inl (cB, 120, .inl T)), (t3, .inl (cI, 240, .inl Nm))] → va_S AM sM.heap H locs → ∀ (ls : Array Slot), lv_has ls 6 [(0, .ref t0), (1, .int (nI w)), (3, .int (bI (neg T N may a))), (4, .int v), (5, .int (nI x))] → W pM l eM ({ frames := 2, cells := 0, slots := 0, locals := 42 } : Room) sM mM ([.ref t0, .int (nI w), .int (bI may)] : List Value).toArray below meth cM H locs 0 0 (MQ below (QI D (fun (r : Int32) (_ : Unit) => r = bI (nOk T N may a)) (fun (u : Unit) => [(t0, .inr (3, [.int (nI N), .int (nI o), .int (nI (nEnd T N may a)), .ref t1, .ref t2, .ref t3])), (t2, .inl (cB, 120, .inl T)), (t3, .inl (cI, 240, .inl (if fig T N (nSt T N may a) = true then upd Nm (o * 4 + w) (nVal T N may a) else Nm)))]) AM) ([.ref t0, .int (nI w), .int (bI may)] : List Value).toArray sM 0 0 AM) (F0 mM 48 ls []) := by
          intro nn
          induction nn with
          | zero =>
            intro x y v hxx hy hI hm
            exact absurd hm (Nat.not_lt_zero _)
          | succ nn ih_6 =>
            intro x y v hxx hy hI hm H locs hP hD hS ls hl
            refine lv_iload hx hb dX3_takesNumber_48 (lv_at hl 4 rfl) ?_
            have jn_7 : (dg T N 3 (nSt T N may a) 0 = (y, v)) → ∀ (H : Heap) (locs : List Loc), va_P D vwCl [(t0, .inr (3, [.int (nI N), .int (nI o), .int (nI y), .ref t1, .ref t2, .ref t3])), (t2, .inl (cB, 120, .inl T)), (t3, .inl (cI, 240, .inl Nm))] H → va_D AM [(t0, .inr (3, [.int (nI N), .int (nI o), .int (nI y), .ref t1, .ref t2, .ref t3])), (t2, .inl (cB, 120, .inl T)), (t3, .inl (cI, 240, .inl Nm))] → va_S AM sM.heap H locs → ∀ (ls : Array Slot), lv_has ls 6 [(0, .ref t0), (1, .int (nI w)), (3, .int (bI (neg T N may a))), (4, .int v)] → W pM l eM ({ frames := 2, cells := 0, slots := 0, locals := 42 } : Room) sM mM ([.ref t0, .int (nI w), .int (bI may)] : List Value).toArray below meth cM H locs 0 0 (MQ below (QI D (fun (r : Int32) (_ : Unit) => r = bI (nOk T N may a)) (fun (u : Unit) => [(t0, .inr (3, [.int (nI N), .int (nI o), .int (nI (nEnd T N may a)), .ref t1, .ref t2, .ref t3])), (t2, .inl (cB, 120, .inl T)), (t3, .inl (cI, 240, .inl (if fig T N (nSt T N may a) = true then upd Nm (o * 4 + w) (nVal T N may a) else Nm)))]) AM) ([.ref t0, .int (nI w), .int (bI may)] : List Value).toArray sM 0 0 AM) (F0 mM 92 ls []) := by
              intro he H locs hP hD hS ls hl
              refine lv_aload_n hx hb dX3_takesNumber_92 rfl (lv_at hl 0 rfl) ?_
              refine va_get (D := D) (ci := 3) (v := .ref t3) (C := RX3) (T := TX3) (N := 6) hx hb hts in_X3_takesNumber_3 hown hK hP 0 rfl rfl 5 (by decide) (hts (.fieldLink RX3 28 "HoseSpans$Text" "numbers" "[I") (List.mem_of_getElem? (i := 2) (by decide +kernel))) (fun _ h9 => h9) rfl dX3_takesNumber_93 ?_
              refine lv_aload_n hx hb dX3_takesNumber_96 rfl (lv_at hl 0 rfl) ?_
              refine va_get (D := D) (ci := 3) (v := .int (nI o)) (C := RX3) (T := TX3) (N := 6) hx hb hts in_X3_takesNumber_3 hown hK hP 0 rfl rfl 1 (by decide) (hts (.fieldLink RX3 15 "HoseSpans$Text" "orders" "I") (List.mem_of_getElem? (i := 3) (by decide +kernel))) (fun _ h9 => h9) rfl dX3_takesNumber_97 ?_
              refine lv_iconst (v := 4) hx hb dX3_takesNumber_100 (by decide) ?_
              refine lv_imul hx hb dX3_takesNumber_101 ?_
              refine e_n (y := nI (o * 4)) (pk_mul o 4) ?_
              have jn_8 : ∀ (H : Heap) (locs : List Loc), va_P D vwCl [(t0, .inr (3, [.int (nI N), .int (nI o), .int (nI y), .ref t1, .ref t2, .ref t3])), (t2, .inl (cB, 120, .inl T)), (t3, .inl (cI, 240, .inl Nm))] H → va_D AM [(t0, .inr (3, [.int (nI N), .int (nI o), .int (nI y), .ref t1, .ref t2, .ref t3])), (t2, .inl (cB, 120, .inl T)), (t3, .inl (cI, 240, .inl Nm))] → va_S AM sM.heap H locs → ∀ (ls : Array Slot), lv_has ls 6 [(0, .ref t0), (1, .int (nI w)), (3, .int (bI (neg T N may a))), (4, .int v)] → W pM l eM ({ frames := 2, cells := 0, slots := 0, locals := 42 } : Room) sM mM ([.ref t0, .int (nI w), .int (bI may)] : List Value).toArray below meth cM H locs 0 0 (MQ below (QI D (fun (r : Int32) (_ : Unit) => r = bI (nOk T N may a)) (fun (u : Unit) => [(t0, .inr (3, [.int (nI N), .int (nI o), .int (nI (nEnd T N may a)), .ref t1, .ref t2, .ref t3])), (t2, .inl (cB, 120, .inl T)), (t3, .inl (cI, 240, .inl (if fig T N (nSt T N may a) = true then upd Nm (o * 4 + w) (nVal T N may a) else Nm)))]) AM) ([.ref t0, .int (nI w), .int (bI may)] : List Value).toArray sM 0 0 AM) (F0 mM 116 ls [.int (nVal T N may a), .int (nI (o * 4 + w)), .ref t3]) := by
                intro  H locs hP hD hS ls hl
                refine va_iast hx hb hK hP hD hS 2 0 rfl rfl (vp_in_nI (by omega) (by decide)) dX3_takesNumber_116 (fun H locs hP hD hS => ?_)
                rw [show Int32.toNatClampNeg (nI (o * 4 + w)) = o * 4 + w from (nI_clamp (by omega))] at hP hD
                have hP : va_P D vwCl [(t0, .inr (3, [.int (nI N), .int (nI o), .int (nI y), .ref t1, .ref t2, .ref t3])), (t2, .inl (cB, 120, .inl T)), (t3, .inl (cI, 240, .inl (upd Nm (o * 4 + w) (nVal T N may a))))] H := hP
                have hD : va_D AM [(t0, .inr (3, [.int (nI N), .int (nI o), .int (nI y), .ref t1, .ref t2, .ref t3])), (t2, .inl (cB, 120, .inl T)), (t3, .inl (cI, 240, .inl (upd Nm (o * 4 + w) (nVal T N may a))))] := hD
                rw [show (.int (nI y) : Value) = .int (nI (nEnd T N may a)) from congrArg Value.int (congrArg nI (nEnd_of he).symm)] at hP hD
                have hP : va_P D vwCl [(t0, .inr (3, [.int (nI N), .int (nI o), .int (nI (nEnd T N may a)), .ref t1, .ref t2, .ref t3])), (t2, .inl (cB, 120, .inl T)), (t3, .inl (cI, 240, .inl (upd Nm (o * 4 + w) (nVal T N may a))))] H := hP
                have hD : va_D AM [(t0, .inr (3, [.int (nI N), .int (nI o), .int (nI (nEnd T N may a)), .ref t1, .ref t2, .ref t3])), (t2, .inl (cB, 120, .inl T)), (t3, .inl (cI, 240, .inl (upd Nm (o * 4 + w) (nVal T N may a))))] := hD
                rw [show (upd Nm (o * 4 + w) (nVal T N may a)) = (if fig T N (nSt T N may a) = true then upd Nm (o * 4 + w) (nVal T N may a) else Nm) from (if_pos hfg).symm] at hP hD
                have hP : va_P D vwCl [(t0, .inr (3, [.int (nI N), .int (nI o), .int (nI (nEnd T N may a)), .ref t1, .ref t2, .ref t3])), (t2, .inl (cB, 120, .inl T)), (t3, .inl (cI, 240, .inl (if fig T N (nSt T N may a) = true then upd Nm (o * 4 + w) (nVal T N may a) else Nm)))] H := hP
                have hD : va_D AM [(t0, .inr (3, [.int (nI N), .int (nI o), .int (nI (nEnd T N may a)), .ref t1, .ref t2, .ref t3])), (t2, .inl (cB, 120, .inl T)), (t3, .inl (cI, 240, .inl (if fig T N (nSt T N may a) = true then upd Nm (o * 4 + w) (nVal T N may a) else Nm)))] := hD
                refine lv_aload_n hx hb dX3_takesNumber_117 rfl (lv_at hl 0 rfl) ?_
                refine k_i (va_runV (As := []) (rest := []) ⟨hx, hb, hml, hown, hts⟩ (c_X3_isFigureHere l D cI cB cO H.size t0 t1 t2 t3 N o (nEnd T N may a) T (by first | assumption | omega | exact (nSt_N ha).2 | exact (nEnd_N ha).2) (by first | assumption | omega | exact (nSt_N ha).2 | exact (nEnd_N ha).2)) (cwV 0 hts gX3_takesNumber_X3_isFigureHere rfl rfl rfl (by decide +kernel) ⟨Nat.le_of_ble_eq_true rfl, Nat.le_of_ble_eq_true rfl⟩) (preV_of hK hP hD hS hA hSt [0, 1] (by decide) rfl 0 (ci := 3) rfl rfl) rfl rfl hl.1 rfl (lv_room (Nat.le_of_ble_eq_true rfl)) dX3_takesNumber_118 ⟨Nat.le_of_ble_eq_true rfl, Nat.le_of_ble_eq_true rfl⟩) hP hD hS hA [0, 1] [2] [1, 2, 0] [(t3, .inl (cI, 240, .inl (if fig T N (nSt T N may a) = true then upd Nm (o * 4 + w) (nVal T N may a) else Nm)))] (fun (u_9 : Unit) => [(t0, .inr (3, [.int (nI N), .int (nI o), .int (nI (nEnd T N may a)), .ref t1, .ref t2, .ref t3])), (t2, .inl (cB, 120, .inl T)), (t3, .inl (cI, 240, .inl (if fig T N (nSt T N may a) = true then upd Nm (o * 4 + w) (nVal T N may a) else Nm)))]) rfl rfl (by decide) (by decide) (by decide) (fun _ => rfl) (fun r_9 u_9 H locs q_9 hP hD hS => ?_)
                obtain rfl : r_9 = bI (fig T N (nEnd T N may a)) := q_9
                refine lv_if_ne (tgt := 128) hx hb dX3_takesNumber_121 (by decide) (fun c_10 => ?_) (fun c_10 => ?_)
                · have c_10 := bI_n0.mp c_10
                  refine lv_iconst (v := 0) hx hb dX3_takesNumber_128 (by decide) ?_
                  refine e_z (u := ()) hx hb hr (by first | rfl | exact bI_nar _) hlocks hP hD hS dX3_takesNumber_129 ?_ ?_
                  · rfl
                  · first | exact bI_t (nOk_t hfg (by assumption)) | exact bI_f (nOk_f2 (by assumption))
                · have c_10 := bI_0.mp c_10
                  refine lv_iconst (v := 1) hx hb dX3_takesNumber_124 (by decide) ?_
                  refine lv_goto (tgt := 129) hx hb dX3_takesNumber_125 (by decide) ?_
                  refine e_z (u := ()) hx hb hr (by first | rfl | exact bI_nar _) hlocks hP hD hS dX3_takesNumber_129 ?_ ?_
                  · rfl
                  · first | exact bI_t (nOk_t hfg (by assumption)) | exact bI_f (nOk_f2 (by assumption))
              refine lv_iload_n hx hb dX3_takesNumber_102 rfl (lv_at hl 1 rfl) ?_
              refine lv_iadd hx hb dX3_takesNumber_103 ?_
              refine e_n (y := nI (o * 4 + w)) (nI_add (o * 4) w) ?_
              refine lv_iload_n hx hb dX3_takesNumber_104 rfl (lv_at hl 2 rfl) ?_
              refine lv_if_eq (tgt := 114) hx hb dX3_takesNumber_105 (by decide) (fun c_11 => ?_) (fun c_11 => ?_)
              · have c_11 := bI_0.mp c_11
                refine lv_iload hx hb dX3_takesNumber_114 (lv_at hl 3 rfl) ?_
                refine e_n (y := nVal T N may a) (by first | exact nVal_t he (by assumption) | exact nVal_f he (by assumption)) ?_
                exact jn_8  H locs hP hD hS ls (lv_sub hl [0, 1, 2, 3] rfl)
              · have c_11 := bI_n0.mp c_11
                refine lv_iload hx hb dX3_takesNumber_108 (lv_at hl 3 rfl) ?_
                refine lv_ineg hx hb dX3_takesNumber_110 ?_
                refine lv_goto (tgt := 116) hx hb dX3_takesNumber_111 (by decide) ?_
                refine e_n (y := nVal T N may a) (by first | exact nVal_t he (by assumption) | exact nVal_f he (by assumption)) ?_
                exact jn_8  H locs hP hD hS ls (lv_sub hl [0, 1, 2, 3] rfl)
            refine lv_iconst (v := 3) hx hb dX3_takesNumber_50 (by decide) ?_
            refine lv_icmp_ge (tgt := 92) hx hb dX3_takesNumber_51 (by decide) (fun c_12 => ?_) (fun c_12 => ?_)
            · have c_12 := Int32.not_lt.mpr c_12
              have c_12 : ¬ x < 3 := fun h => c_12 ((nI_ltI (a := x) (b := 3) (by omega) (by decide)).mpr h)
              exact jn_7 (by first | exact hI.symm.trans (by rw [show x = 3 by omega]; rfl) | exact hI.symm.trans (dg_e (by assumption))) H locs hP hD hS ls (lv_sub hl [0, 1, 2, 3] rfl)
            · have c_12 := Int32.not_le.mp c_12
              have c_12 : x < 3 := (nI_ltI (b := 3) (by omega) (by decide)).mp c_12
              refine lv_aload_n hx hb dX3_takesNumber_54 rfl (lv_at hl 0 rfl) ?_
              refine k_i (va_runV (As := []) (rest := []) ⟨hx, hb, hml, hown, hts⟩ (c_X3_isFigureHere l D cI cB cO H.size t0 t1 t2 t3 N o y T (by first | assumption | omega | exact (nSt_N ha).2 | exact (nEnd_N ha).2) (by first | assumption | omega | exact (nSt_N ha).2 | exact (nEnd_N ha).2)) (cwV 0 hts gX3_takesNumber_X3_isFigureHere rfl rfl rfl (by decide +kernel) ⟨Nat.le_of_ble_eq_true rfl, Nat.le_of_ble_eq_true rfl⟩) (preV_of hK hP hD hS hA hSt [0, 1] (by decide) rfl 0 (ci := 3) rfl rfl) rfl rfl hl.1 rfl (lv_room (Nat.le_of_ble_eq_true rfl)) dX3_takesNumber_55 ⟨Nat.le_of_ble_eq_true rfl, Nat.le_of_ble_eq_true rfl⟩) hP hD hS hA [0, 1] [2] [1, 2, 0] [(t3, .inl (cI, 240, .inl Nm))] (fun (u_13 : Unit) => [(t0, .inr (3, [.int (nI N), .int (nI o), .int (nI y), .ref t1, .ref t2, .ref t3])), (t2, .inl (cB, 120, .inl T)), (t3, .inl (cI, 240, .inl Nm))]) rfl rfl (by decide) (by decide) (by decide) (fun _ => rfl) (fun r_13 u_13 H locs q_13 hP hD hS => ?_)
              obtain rfl : r_13 = bI (fig T N y) := q_13
              refine lv_if_eq (tgt := 92) hx hb dX3_takesNumber_58 (by decide) (fun c_14 => ?_) (fun c_14 => ?_)
              · have c_14 := bI_0.mp c_14
                exact jn_7 (by first | exact hI.symm.trans (by rw [show x = 3 by omega]; rfl) | exact hI.symm.trans (dg_e (by assumption))) H locs hP hD hS ls (lv_sub hl [0, 1, 2, 3] rfl)
              · have c_14 := bI_n0.mp c_14
                refine lv_bipush (v := 10) hx hb dX3_takesNumber_61 (by decide) ?_
                refine lv_iload hx hb dX3_takesNumber_63 (lv_at hl 3 rfl) ?_
                refine lv_imul hx hb dX3_takesNumber_65 ?_
                refine lv_aload_n hx hb dX3_takesNumber_66 rfl (lv_at hl 0 rfl) ?_
                refine k_i (va_runV (As := []) (rest := [.int (10 * v)]) ⟨hx, hb, hml, hown, hts⟩ (c_X3_byteHere l D cI cB cO H.size t0 t1 t2 t3 N o y T (by first | assumption | omega | exact (nSt_N ha).2 | exact (nEnd_N ha).2) (by first | assumption | omega | exact (nSt_N ha).2 | exact (nEnd_N ha).2)) (cwV 0 hts gX3_takesNumber_X3_byteHere rfl rfl rfl (by decide +kernel) ⟨Nat.le_of_ble_eq_true rfl, Nat.le_of_ble_eq_true rfl⟩) (preV_of hK hP hD hS hA hSt [0, 1] (by decide) rfl 0 (ci := 3) rfl rfl) rfl rfl hl.1 rfl (lv_room (Nat.le_of_ble_eq_true rfl)) dX3_takesNumber_67 ⟨Nat.le_of_ble_eq_true rfl, Nat.le_of_ble_eq_true rfl⟩) hP hD hS hA [0, 1] [2] [1, 2, 0] [(t3, .inl (cI, 240, .inl Nm))] (fun (u_15 : Unit) => [(t0, .inr (3, [.int (nI N), .int (nI o), .int (nI y), .ref t1, .ref t2, .ref t3])), (t2, .inl (cB, 120, .inl T)), (t3, .inl (cI, 240, .inl Nm))]) rfl rfl (by decide) (by decide) (by decide) (fun _ => rfl) (fun r_15 u_15 H locs q_15 hP hD hS => ?_)
                obtain rfl : r_15 = bh T N y := q_15
                refine lv_iadd hx hb dX3_takesNumber_70 ?_
                refine lv_bipush (v := 48) hx hb dX3_takesNumber_71 (by decide) ?_
                refine lv_isub hx hb dX3_takesNumber_73 ?_
                refine lv_istore (lv' := [(4, .int (((10 * v) + (bh T N y)) - 48)), (0, .ref t0), (1, .int (nI w)), (3, .int (bI (neg T N may a))), (5, .int (nI x))]) hx hb dX3_takesNumber_74 hl (by decide) rfl (fun ls hl => ?_)
                refine lv_aload_n hx hb dX3_takesNumber_76 rfl (lv_at hl 1 rfl) ?_
                refine lv_dup hx hb dX3_takesNumber_77 rfl ?_
                refine va_get (D := D) (ci := 3) (v := .int (nI y)) (C := RX3) (T := TX3) (N := 6) hx hb hts in_X3_takesNumber_3 hown hK hP 0 rfl rfl 2 (by decide) (hts (.fieldLink RX3 18 "HoseSpans$Text" "place" "I") (List.mem_of_getElem? (i := 1) (by decide +kernel))) (fun _ h9 => h9) rfl dX3_takesNumber_78 ?_
                refine lv_iconst (v := 1) hx hb dX3_takesNumber_81 (by decide) ?_
                refine lv_iadd hx hb dX3_takesNumber_82 ?_
                refine e_n (y := nI (y + 1)) (nI_add y 1) ?_
                refine va_put (D := D) (ci := 3) (v := .int (nI (y + 1))) (ty := .int) (C := RX3) (T := TX3) (N := 6) hx hb hts in_X3_takesNumber_3 tyX3 tyX3_ok nmX3 hown hK hP hD hS 0 rfl rfl 2 (by decide) (hts (.fieldLink RX3 18 "HoseSpans$Text" "place" "I") (List.mem_of_getElem? (i := 1) (by decide +kernel))) (fun _ h9 => h9) rfl (by decide +kernel) rfl rfl (Nat.le_of_ble_eq_true rfl) dX3_takesNumber_83 (fun H locs hP hD hS => ?_)
                have hP : va_P D vwCl [(t0, .inr (3, [.int (nI N), .int (nI o), .int (nI (y + 1)), .ref t1, .ref t2, .ref t3])), (t2, .inl (cB, 120, .inl T)), (t3, .inl (cI, 240, .inl Nm))] H := hP
                have hD : va_D AM [(t0, .inr (3, [.int (nI N), .int (nI o), .int (nI (y + 1)), .ref t1, .ref t2, .ref t3])), (t2, .inl (cB, 120, .inl T)), (t3, .inl (cI, 240, .inl Nm))] := hD
                refine lv_iinc (v := nI (x + 1)) (lv' := [(5, .int (nI (x + 1))), (4, .int (((10 * v) + (bh T N y)) - 48)), (0, .ref t0), (1, .int (nI w)), (3, .int (bI (neg T N may a)))]) hx hb dX3_takesNumber_86 hl (k := 4) rfl (nI_add x 1) (by decide) rfl (fun ls hl => ?_)
                refine lv_goto (tgt := 48) hx hb dX3_takesNumber_89 (by decide) ?_
                have hl9 : lv_has ls 6 [(0, .ref t0), (1, .int (nI w)), (3, .int (bI (neg T N may a))), (4, .int (((10 * v) + (bh T N y)) - 48)), (5, .int (nI (x + 1)))] := lv_sub hl [2, 3, 4, 1, 0] rfl
                exact ih_6 (x + 1) (y + 1) (((10 * v) + (bh T N y)) - 48) (by first | assumption | omega | exact (nSt_N ha).2 | exact (nEnd_N ha).2) (by exact fig_N (by assumption)) (by rw [show 3 - x = (3 - (x + 1)) + 1 by omega, dg_s (by assumption)] at hI; exact hI) (by omega) H locs hP hD hS ls hl9
        have hl9 : lv_has ls 6 [(0, .ref t0), (1, .int (nI w)), (3, .int (bI (neg T N may a))), (4, .int 0), (5, .int 0)] := lv_sub hl [2, 3, 4, 1, 0] rfl
        rw [show ([(0, .ref t0), (1, .int (nI w)), (3, .int (bI (neg T N may a))), (4, .int 0), (5, .int 0)] : List (Nat × Value)) = [(0, .ref t0), (1, .int (nI w)), (3, .int (bI (neg T N may a))), (4, .int 0), (5, .int (nI 0))] from rfl] at hl9
        exact lp_5 ((3 - 0) + 1) 0 (nSt T N may a) 0 (by first | assumption | omega | exact (nSt_N ha).2 | exact (nEnd_N ha).2) (by first | assumption | omega | exact (nSt_N ha).2 | exact (nEnd_N ha).2) (by rfl) (Nat.lt_succ_self _) H locs hP hD hS ls hl9
      · have c_4 := bI_0.mp c_4
        rw [show (.int (nI (nSt T N may a)) : Value) = .int (nI (nEnd T N may a)) from congrArg Value.int (congrArg nI (nEnd_f (by assumption)).symm)] at hP hD
        have hP : va_P D vwCl [(t0, .inr (3, [.int (nI N), .int (nI o), .int (nI (nEnd T N may a)), .ref t1, .ref t2, .ref t3])), (t2, .inl (cB, 120, .inl T)), (t3, .inl (cI, 240, .inl Nm))] H := hP
        have hD : va_D AM [(t0, .inr (3, [.int (nI N), .int (nI o), .int (nI (nEnd T N may a)), .ref t1, .ref t2, .ref t3])), (t2, .inl (cB, 120, .inl T)), (t3, .inl (cI, 240, .inl Nm))] := hD
        rw [show Nm = (if fig T N (nSt T N may a) = true then upd Nm (o * 4 + w) (nVal T N may a) else Nm) from (if_neg (by rw [show fig T N (nSt T N may a) = false by assumption]; decide)).symm] at hP hD
        have hP : va_P D vwCl [(t0, .inr (3, [.int (nI N), .int (nI o), .int (nI (nEnd T N may a)), .ref t1, .ref t2, .ref t3])), (t2, .inl (cB, 120, .inl T)), (t3, .inl (cI, 240, .inl (if fig T N (nSt T N may a) = true then upd Nm (o * 4 + w) (nVal T N may a) else Nm)))] H := hP
        have hD : va_D AM [(t0, .inr (3, [.int (nI N), .int (nI o), .int (nI (nEnd T N may a)), .ref t1, .ref t2, .ref t3])), (t2, .inl (cB, 120, .inl T)), (t3, .inl (cI, 240, .inl (if fig T N (nSt T N may a) = true then upd Nm (o * 4 + w) (nVal T N may a) else Nm)))] := hD
        refine lv_iconst (v := 0) hx hb dX3_takesNumber_40 (by decide) ?_
        refine e_z (u := ()) hx hb hr (by first | rfl | exact bI_nar _) hlocks hP hD hS dX3_takesNumber_41 ?_ ?_
        · rfl
        · exact bI_f (nOk_f1 (by assumption))
    refine lv_iload_n hx hb dX3_takesNumber_19 rfl (lv_at hl 0 rfl) ?_
    refine lv_if_eq (tgt := 33) hx hb dX3_takesNumber_20 (by decide) (fun c_16 => ?_) (fun c_16 => ?_)
    · have c_16 := bI_0.mp c_16
      rw [show (.int (nI a) : Value) = .int (nI (nSt T N may a)) from congrArg Value.int (congrArg nI (by first | exact (nSt_f (by assumption)).symm | exact (nSt_t (by assumption)).symm))] at hP hD
      have hP : va_P D vwCl [(t0, .inr (3, [.int (nI N), .int (nI o), .int (nI (nSt T N may a)), .ref t1, .ref t2, .ref t3])), (t2, .inl (cB, 120, .inl T)), (t3, .inl (cI, 240, .inl Nm))] H := hP
      have hD : va_D AM [(t0, .inr (3, [.int (nI N), .int (nI o), .int (nI (nSt T N may a)), .ref t1, .ref t2, .ref t3])), (t2, .inl (cB, 120, .inl T)), (t3, .inl (cI, 240, .inl Nm))] := hD
      exact jn_2  H locs hP hD hS ls (lv_sub hl [1, 2, 0] rfl)
    · have c_16 := bI_n0.mp c_16
      refine lv_aload_n hx hb dX3_takesNumber_23 rfl (lv_at hl 1 rfl) ?_
      refine lv_dup hx hb dX3_takesNumber_24 rfl ?_
      refine va_get (D := D) (ci := 3) (v := .int (nI a)) (C := RX3) (T := TX3) (N := 6) hx hb hts in_X3_takesNumber_3 hown hK hP 0 rfl rfl 2 (by decide) (hts (.fieldLink RX3 18 "HoseSpans$Text" "place" "I") (List.mem_of_getElem? (i := 1) (by decide +kernel))) (fun _ h9 => h9) rfl dX3_takesNumber_25 ?_
      refine lv_iconst (v := 1) hx hb dX3_takesNumber_28 (by decide) ?_
      refine lv_iadd hx hb dX3_takesNumber_29 ?_
      refine e_n (y := nI (a + 1)) (nI_add a 1) ?_
      refine va_put (D := D) (ci := 3) (v := .int (nI (a + 1))) (ty := .int) (C := RX3) (T := TX3) (N := 6) hx hb hts in_X3_takesNumber_3 tyX3 tyX3_ok nmX3 hown hK hP hD hS 0 rfl rfl 2 (by decide) (hts (.fieldLink RX3 18 "HoseSpans$Text" "place" "I") (List.mem_of_getElem? (i := 1) (by decide +kernel))) (fun _ h9 => h9) rfl (by decide +kernel) rfl rfl (Nat.le_of_ble_eq_true rfl) dX3_takesNumber_30 (fun H locs hP hD hS => ?_)
      have hP : va_P D vwCl [(t0, .inr (3, [.int (nI N), .int (nI o), .int (nI (a + 1)), .ref t1, .ref t2, .ref t3])), (t2, .inl (cB, 120, .inl T)), (t3, .inl (cI, 240, .inl Nm))] H := hP
      have hD : va_D AM [(t0, .inr (3, [.int (nI N), .int (nI o), .int (nI (a + 1)), .ref t1, .ref t2, .ref t3])), (t2, .inl (cB, 120, .inl T)), (t3, .inl (cI, 240, .inl Nm))] := hD
      rw [show (.int (nI (a + 1)) : Value) = .int (nI (nSt T N may a)) from congrArg Value.int (congrArg nI (by first | exact (nSt_f (by assumption)).symm | exact (nSt_t (by assumption)).symm))] at hP hD
      have hP : va_P D vwCl [(t0, .inr (3, [.int (nI N), .int (nI o), .int (nI (nSt T N may a)), .ref t1, .ref t2, .ref t3])), (t2, .inl (cB, 120, .inl T)), (t3, .inl (cI, 240, .inl Nm))] H := hP
      have hD : va_D AM [(t0, .inr (3, [.int (nI N), .int (nI o), .int (nI (nSt T N may a)), .ref t1, .ref t2, .ref t3])), (t2, .inl (cB, 120, .inl T)), (t3, .inl (cI, 240, .inl Nm))] := hD
      exact jn_2  H locs hP hD hS ls (lv_sub hl [1, 2, 0] rfl)
  refine lv_iload_n hx hb dX3_takesNumber_0 rfl (lv_at hl 2 rfl) ?_
  refine lv_if_eq (tgt := 17) hx hb dX3_takesNumber_1 (by decide) (fun c_17 => ?_) (fun c_17 => ?_)
  · have c_17 := bI_0.mp c_17
    refine lv_iconst (v := 0) hx hb dX3_takesNumber_17 (by decide) ?_
    refine e_n (y := bI (neg T N may a)) (by first | exact bI_f (neg_1 (by assumption)) | exact bI_f (neg_2 (by assumption)) | exact bI_t (neg_3 (by assumption) (by assumption))) ?_
    exact jn_1  H locs hP hD hS ls (lv_sub hl [0, 1, 2] rfl)
  · have c_17 := bI_n0.mp c_17
    refine lv_aload_n hx hb dX3_takesNumber_4 rfl (lv_at hl 0 rfl) ?_
    refine k_i (va_runV (As := []) (rest := []) ⟨hx, hb, hml, hown, hts⟩ (c_X3_byteHere l D cI cB cO H.size t0 t1 t2 t3 N o a T (by first | assumption | omega | exact (nSt_N ha).2 | exact (nEnd_N ha).2) (by first | assumption | omega | exact (nSt_N ha).2 | exact (nEnd_N ha).2)) (cwV 0 hts gX3_takesNumber_X3_byteHere rfl rfl rfl (by decide +kernel) ⟨Nat.le_of_ble_eq_true rfl, Nat.le_of_ble_eq_true rfl⟩) (preV_of hK hP hD hS hA hSt [0, 1] (by decide) rfl 0 (ci := 3) rfl rfl) rfl rfl hl.1 rfl (lv_room (Nat.le_of_ble_eq_true rfl)) dX3_takesNumber_5 ⟨Nat.le_of_ble_eq_true rfl, Nat.le_of_ble_eq_true rfl⟩) hP hD hS hA [0, 1] [2] [1, 2, 0] [(t3, .inl (cI, 240, .inl Nm))] (fun (u_18 : Unit) => [(t0, .inr (3, [.int (nI N), .int (nI o), .int (nI a), .ref t1, .ref t2, .ref t3])), (t2, .inl (cB, 120, .inl T)), (t3, .inl (cI, 240, .inl Nm))]) rfl rfl (by decide) (by decide) (by decide) (fun _ => rfl) (fun r_18 u_18 H locs q_18 hP hD hS => ?_)
    obtain rfl : r_18 = bh T N a := q_18
    refine lv_bipush (v := 45) hx hb dX3_takesNumber_8 (by decide) ?_
    refine lv_icmp_ne (tgt := 17) hx hb dX3_takesNumber_10 (by decide) (fun c_19 => ?_) (fun c_19 => ?_)
    · refine lv_iconst (v := 0) hx hb dX3_takesNumber_17 (by decide) ?_
      refine e_n (y := bI (neg T N may a)) (by first | exact bI_f (neg_1 (by assumption)) | exact bI_f (neg_2 (by assumption)) | exact bI_t (neg_3 (by assumption) (by assumption))) ?_
      exact jn_1  H locs hP hD hS ls (lv_sub hl [0, 1, 2] rfl)
    · refine lv_iconst (v := 1) hx hb dX3_takesNumber_13 (by decide) ?_
      refine lv_goto (tgt := 18) hx hb dX3_takesNumber_14 (by decide) ?_
      refine e_n (y := bI (neg T N may a)) (by first | exact bI_f (neg_1 (by assumption)) | exact bI_f (neg_2 (by assumption)) | exact bI_t (neg_3 (by assumption) (by assumption))) ?_
      exact jn_1  H locs hP hD hS ls (lv_sub hl [0, 1, 2] rfl)
theorem in_X3_takesOrder_3 : ∀ w ∈ wsX30, w ∈ wsX3_takesOrder := fun _ h => List.mem_cons_of_mem _ (List.mem_append_right _ h)
set_option maxHeartbeats 4000000 in
set_option maxRecDepth 100000 in
theorem c_X3_takesOrder (l : Launch) (D : va_G) (cI cB cO : ClassId) (sz : Nat) (t0 t1 t2 t3 N o a : Nat) (T Lt Nm : Nat → Int32) (hN : N ≤ 120) (ha : a ≤ N) (ho : o < 60) : CI l yX3_takesOrder wsX3_takesOrder ({ frames := 3, cells := 0, slots := 0, locals := 67 } : Room) D (tyL cI cB cO) [.ref t0] [(t0, .inr (3, [.int (nI N), .int (nI o), .int (nI a), .ref t1, .ref t2, .ref t3])), (t1, .inl (cB, 60, .inl Lt)), (t2, .inl (cB, 120, .inl T)), (t3, .inl (cI, 240, .inl Nm))] sz (fun (ans : Int32) (u : (Nat → Int32) × (Nat → Int32)) => ans = bI (ordR T N a).1 ∧ ((ordR T N a).1 = true → u.1 = upd Lt o (bh T N a) ∧ (∀ j, j < o * 4 → u.2 j = Nm j) ∧ ∀ k, k < nW (bh T N a) → u.2 (o * 4 + k) = oV T N a k)) (fun (u : (Nat → Int32) × (Nat → Int32)) => [(t0, .inr (3, [.int (nI N), .int (nI o), .int (nI (ordR T N a).2), .ref t1, .ref t2, .ref t3])), (t1, .inl (cB, 60, .inl u.1)), (t2, .inl (cB, 120, .inl T)), (t3, .inl (cI, 240, .inl u.2))]) 0 0 := by
  refine ct_of (cc := cX3_takesOrder) (maxL := 4) (ret := some .boolean) (own := RX3) (Qc := QI D (fun (ans : Int32) (u : (Nat → Int32) × (Nat → Int32)) => ans = bI (ordR T N a).1 ∧ ((ordR T N a).1 = true → u.1 = upd Lt o (bh T N a) ∧ (∀ j, j < o * 4 → u.2 j = Nm j) ∧ ∀ k, k < nW (bh T N a) → u.2 (o * 4 + k) = oV T N a k)) (fun (u : (Nat → Int32) × (Nat → Int32)) => [(t0, .inr (3, [.int (nI N), .int (nI o), .int (nI (ordR T N a).2), .ref t1, .ref t2, .ref t3])), (t1, .inl (cB, 60, .inl u.1)), (t2, .inl (cB, 120, .inl T)), (t3, .inl (cI, 240, .inl u.2))])) (by decide) rfl rfl (Nat.le_of_ble_eq_true rfl) ?_
  intro pM eM sM mM below meth cM AM ls H locs hx hb hr hts hown hlocks hml hin hK hP hD hS hA hSt hl
  have hl : lv_has ls 4 [(0, .ref t0)] := hl
  refine lv_aload_n hx hb dX3_takesOrder_0 rfl (lv_at hl 0 rfl) ?_
  refine k_i (va_runV (As := []) (rest := []) ⟨hx, hb, hml, hown, hts⟩ (c_X3_byteHere l D cI cB cO H.size t0 t1 t2 t3 N o a T (by first | assumption | omega | exact skB_N (by assumption)) (by first | assumption | omega | exact skB_N (by assumption))) (cwV 0 hts gX3_takesOrder_X3_byteHere rfl rfl rfl (by decide +kernel) ⟨Nat.le_of_ble_eq_true rfl, Nat.le_of_ble_eq_true rfl⟩) (preV_of hK hP hD hS hA hSt [0, 2] (by decide) rfl 0 (ci := 3) rfl rfl) rfl rfl hl.1 rfl (lv_room (Nat.le_of_ble_eq_true rfl)) dX3_takesOrder_1 ⟨Nat.le_of_ble_eq_true rfl, Nat.le_of_ble_eq_true rfl⟩) hP hD hS hA [0, 2] [1, 3] [2, 0, 3, 1] [(t1, .inl (cB, 60, .inl Lt)), (t3, .inl (cI, 240, .inl Nm))] (fun (u_1 : Unit) => [(t0, .inr (3, [.int (nI N), .int (nI o), .int (nI a), .ref t1, .ref t2, .ref t3])), (t1, .inl (cB, 60, .inl Lt)), (t2, .inl (cB, 120, .inl T)), (t3, .inl (cI, 240, .inl Nm))]) rfl rfl (by decide) (by decide) (by decide) (fun _ => rfl) (fun r_1 u_1 H locs q_1 hP hD hS => ?_)
  obtain rfl : r_1 = bh T N a := q_1
  refine lv_istore_n (lv' := [(1, .int (bh T N a)), (0, .ref t0)]) hx hb dX3_takesOrder_4 rfl hl (by decide) rfl (fun ls hl => ?_)
  refine lv_iload_n hx hb dX3_takesOrder_5 rfl (lv_at hl 0 rfl) ?_
  refine k_i (va_runS (As := [.int (bh T N a)]) (rest := []) ⟨hx, hb, hml, hown, hts⟩ (c_X3_numbersOf l D cI cB cO H.size (bh T N a) ) (va_cwS 1 hts gX3_takesOrder_X3_numbersOf rfl rfl rfl (by decide +kernel) ⟨Nat.le_of_ble_eq_true rfl, Nat.le_of_ble_eq_true rfl⟩) (preS_of hK hP hD hS hA hSt [] (by decide) rfl) rfl rfl hl.1 rfl (lv_room (Nat.le_of_ble_eq_true rfl)) dX3_takesOrder_6 ⟨Nat.le_of_ble_eq_true rfl, Nat.le_of_ble_eq_true rfl⟩) hP hD hS hA [] [0, 1, 2, 3] [0, 1, 2, 3] [(t0, .inr (3, [.int (nI N), .int (nI o), .int (nI a), .ref t1, .ref t2, .ref t3])), (t1, .inl (cB, 60, .inl Lt)), (t2, .inl (cB, 120, .inl T)), (t3, .inl (cI, 240, .inl Nm))] (fun (u_2 : Unit) => [(t0, .inr (3, [.int (nI N), .int (nI o), .int (nI a), .ref t1, .ref t2, .ref t3])), (t1, .inl (cB, 60, .inl Lt)), (t2, .inl (cB, 120, .inl T)), (t3, .inl (cI, 240, .inl Nm))]) rfl rfl (by decide) (by decide) (by decide) (fun _ => rfl) (fun r_2 u_2 H locs q_2 hP hD hS => ?_)
  obtain rfl : r_2 = nWi (bh T N a) := q_2
  by_cases hw5 : nW (bh T N a) = 5
  · refine e_n (y := -1) (nWi_5 hw5) ?_
    refine lv_istore_n (lv' := [(2, .int (-1)), (1, .int (bh T N a)), (0, .ref t0)]) hx hb dX3_takesOrder_9 rfl hl (by decide) rfl (fun ls hl => ?_)
    refine lv_iload_n hx hb dX3_takesOrder_10 rfl (lv_at hl 0 rfl) ?_
    refine lv_if_ge (tgt := 16) hx hb dX3_takesOrder_11 (by decide) (fun c_3 => ?_) (fun c_3 => ?_)
    · have c_3 := Int32.not_lt.mpr c_3
      exact absurd (show (-1 : Int32) < 0 by decide) c_3
    · have c_3 := Int32.not_le.mp c_3
      rw [show (.int (nI a) : Value) = .int (nI (ordR T N a).2) from congrArg Value.int (congrArg nI (congrArg Prod.snd (ordR_b hw5).symm))] at hP hD
      have hP : va_P D vwCl [(t0, .inr (3, [.int (nI N), .int (nI o), .int (nI (ordR T N a).2), .ref t1, .ref t2, .ref t3])), (t1, .inl (cB, 60, .inl Lt)), (t2, .inl (cB, 120, .inl T)), (t3, .inl (cI, 240, .inl Nm))] H := hP
      have hD : va_D AM [(t0, .inr (3, [.int (nI N), .int (nI o), .int (nI (ordR T N a).2), .ref t1, .ref t2, .ref t3])), (t1, .inl (cB, 60, .inl Lt)), (t2, .inl (cB, 120, .inl T)), (t3, .inl (cI, 240, .inl Nm))] := hD
      refine lv_iconst (v := 0) hx hb dX3_takesOrder_14 (by decide) ?_
      refine e_z (u := (Lt, Nm)) hx hb hr (by first | rfl | exact bI_nar _) hlocks hP hD hS dX3_takesOrder_15 ?_ ?_
      · rfl
      · exact ⟨by rw [ordR_b hw5]; rfl, fun h => by rw [ordR_b hw5] at h; cases h⟩
  · refine e_n (y := nI (nW (bh T N a))) (nWi_n hw5) ?_
    refine lv_istore_n (lv' := [(2, .int (nI (nW (bh T N a)))), (1, .int (bh T N a)), (0, .ref t0)]) hx hb dX3_takesOrder_9 rfl hl (by decide) rfl (fun ls hl => ?_)
    refine lv_iload_n hx hb dX3_takesOrder_10 rfl (lv_at hl 0 rfl) ?_
    refine lv_if_ge (tgt := 16) hx hb dX3_takesOrder_11 (by decide) (fun c_4 => ?_) (fun c_4 => ?_)
    · have c_4 := Int32.not_lt.mpr c_4
      have h4 := nW_4 hw5
      have hlt : a < N := W_lt hw5
      refine lv_aload_n hx hb dX3_takesOrder_16 rfl (lv_at hl 2 rfl) ?_
      refine va_get (D := D) (ci := 3) (v := .ref t1) (C := RX3) (T := TX3) (N := 6) hx hb hts in_X3_takesOrder_3 hown hK hP 0 rfl rfl 3 (by decide) (hts (.fieldLink RX3 21 "HoseSpans$Text" "letters" "[B") (List.mem_of_getElem? (i := 1) (by decide +kernel))) (fun _ h9 => h9) rfl dX3_takesOrder_17 ?_
      refine lv_aload_n hx hb dX3_takesOrder_20 rfl (lv_at hl 2 rfl) ?_
      refine va_get (D := D) (ci := 3) (v := .int (nI o)) (C := RX3) (T := TX3) (N := 6) hx hb hts in_X3_takesOrder_3 hown hK hP 0 rfl rfl 1 (by decide) (hts (.fieldLink RX3 15 "HoseSpans$Text" "orders" "I") (List.mem_of_getElem? (i := 2) (by decide +kernel))) (fun _ h9 => h9) rfl dX3_takesOrder_21 ?_
      refine lv_iload_n hx hb dX3_takesOrder_24 rfl (lv_at hl 1 rfl) ?_
      refine lv_i2b (v := (Int32.toInt8 (bh T N a)).toInt32) hx hb dX3_takesOrder_25 rfl ?_
      refine va_bast hx hb hK hP hD hS 1 1 rfl rfl (vp_in_nI (by omega) (by decide)) dX3_takesOrder_26 (fun H locs hP hD hS => ?_)
      rw [show Int32.toNatClampNeg (nI o) = o from (nI_clamp (by omega))] at hP hD
      rw [show upd Lt o (vp_nar .byte ((Int32.toInt8 (bh T N a)).toInt32)) = upd Lt o (bh T N a) from (congrArg (upd Lt o) (byte_W hw5))] at hP hD
      have hP : va_P D vwCl [(t0, .inr (3, [.int (nI N), .int (nI o), .int (nI a), .ref t1, .ref t2, .ref t3])), (t1, .inl (cB, 60, .inl (upd Lt o (bh T N a)))), (t2, .inl (cB, 120, .inl T)), (t3, .inl (cI, 240, .inl Nm))] H := hP
      have hD : va_D AM [(t0, .inr (3, [.int (nI N), .int (nI o), .int (nI a), .ref t1, .ref t2, .ref t3])), (t1, .inl (cB, 60, .inl (upd Lt o (bh T N a)))), (t2, .inl (cB, 120, .inl T)), (t3, .inl (cI, 240, .inl Nm))] := hD
      refine lv_aload_n hx hb dX3_takesOrder_27 rfl (lv_at hl 2 rfl) ?_
      refine lv_dup hx hb dX3_takesOrder_28 rfl ?_
      refine va_get (D := D) (ci := 3) (v := .int (nI a)) (C := RX3) (T := TX3) (N := 6) hx hb hts in_X3_takesOrder_3 hown hK hP 0 rfl rfl 2 (by decide) (hts (.fieldLink RX3 18 "HoseSpans$Text" "place" "I") (List.mem_of_getElem? (i := 3) (by decide +kernel))) (fun _ h9 => h9) rfl dX3_takesOrder_29 ?_
      refine lv_iconst (v := 1) hx hb dX3_takesOrder_32 (by decide) ?_
      refine lv_iadd hx hb dX3_takesOrder_33 ?_
      refine e_n (y := nI (a + 1)) (nI_add a 1) ?_
      refine va_put (D := D) (ci := 3) (v := .int (nI (a + 1))) (ty := .int) (C := RX3) (T := TX3) (N := 6) hx hb hts in_X3_takesOrder_3 tyX3 tyX3_ok nmX3 hown hK hP hD hS 0 rfl rfl 2 (by decide) (hts (.fieldLink RX3 18 "HoseSpans$Text" "place" "I") (List.mem_of_getElem? (i := 3) (by decide +kernel))) (fun _ h9 => h9) rfl (by decide +kernel) rfl rfl (Nat.le_of_ble_eq_true rfl) dX3_takesOrder_34 (fun H locs hP hD hS => ?_)
      have hP : va_P D vwCl [(t0, .inr (3, [.int (nI N), .int (nI o), .int (nI (a + 1)), .ref t1, .ref t2, .ref t3])), (t1, .inl (cB, 60, .inl (upd Lt o (bh T N a)))), (t2, .inl (cB, 120, .inl T)), (t3, .inl (cI, 240, .inl Nm))] H := hP
      have hD : va_D AM [(t0, .inr (3, [.int (nI N), .int (nI o), .int (nI (a + 1)), .ref t1, .ref t2, .ref t3])), (t1, .inl (cB, 60, .inl (upd Lt o (bh T N a)))), (t2, .inl (cB, 120, .inl T)), (t3, .inl (cI, 240, .inl Nm))] := hD
      refine lv_iconst (v := 0) hx hb dX3_takesOrder_37 (by decide) ?_
      refine lv_istore_n (lv' := [(3, .int 0), (2, .int (nI (nW (bh T N a)))), (1, .int (bh T N a)), (0, .ref t0)]) hx hb dX3_takesOrder_38 rfl hl (by decide) rfl (fun ls hl => ?_)
      have lp_5 : ∀ (nn : Nat) (w y : Nat) (Nx : Nat → Int32), (w ≤ nW (bh T N a)) → (y ≤ N) → (oGo T N (bh T N a) (nW (bh T N a) - w) w y = ordR T N a) → (y = nPos T N a w) → (∀ j, j < o * 4 → Nx j = Nm j) → (∀ k, k < w → Nx (o * 4 + k) = oV T N a k) → (nW (bh T N a) - w) < nn → ∀ (H : Heap) (locs : List Loc), va_P D vwCl [(t0, .inr (3, [.int (nI N), .int (nI o), .int (nI y), .ref t1, .ref t2, .ref t3])), (t1, .inl (cB, 60, .inl (upd Lt o (bh T N a)))), (t2, .inl (cB, 120, .inl T)), (t3, .inl (cI, 240, .inl Nx))] H → va_D AM [(t0, .inr (3, [.int (nI N), .int (nI o), .int (nI y), .ref t1, .ref t2, .ref t3])), (t1, .inl (cB, 60, .inl (upd Lt o (bh T N a)))), (t2, .inl (cB, 120, .inl T)), (t3, .inl (cI, 240, .inl Nx))] → va_S AM sM.heap H locs → ∀ (ls : Array Slot), lv_has ls 4 [(0, .ref t0), (1, .int (bh T N a)), (2, .int (nI (nW (bh T N a)))), (3, .int (nI w))] → W pM l eM ({ frames := 3, cells := 0, slots := 0, locals := 67 } : Room) sM mM ([.ref t0] : List Value).toArray below meth cM H locs 0 0 (MQ below (QI D (fun (ans : Int32) (u : (Nat → Int32) × (Nat → Int32)) => ans = bI (ordR T N a).1 ∧ ((ordR T N a).1 = true → u.1 = upd Lt o (bh T N a) ∧ (∀ j, j < o * 4 → u.2 j = Nm j) ∧ ∀ k, k < nW (bh T N a) → u.2 (o * 4 + k) = oV T N a k)) (fun (u : (Nat → Int32) × (Nat → Int32)) => [(t0, .inr (3, [.int (nI N), .int (nI o), .int (nI (ordR T N a).2), .ref t1, .ref t2, .ref t3])), (t1, .inl (cB, 60, .inl u.1)), (t2, .inl (cB, 120, .inl T)), (t3, .inl (cI, 240, .inl u.2))]) AM) ([.ref t0] : List Value).toArray sM 0 0 AM) (F0 mM 39 ls []) := by
        intro nn
        induction nn with
        | zero =>
          intro w y Nx hw hy hI hp hj hv hm
          exact absurd hm (Nat.not_lt_zero _)
        | succ nn ih_6 =>
          intro w y Nx hw hy hI hp hj hv hm H locs hP hD hS ls hl
          refine lv_iload_n hx hb dX3_takesOrder_39 rfl (lv_at hl 3 rfl) ?_
          refine lv_iload_n hx hb dX3_takesOrder_40 rfl (lv_at hl 2 rfl) ?_
          refine lv_icmp_ge (tgt := 80) hx hb dX3_takesOrder_41 (by decide) (fun c_7 => ?_) (fun c_7 => ?_)
          · have c_7 := Int32.not_lt.mpr c_7
            have c_7 : w = nW (bh T N a) := by have h := mt (nI_ltI (a := w) (b := nW (bh T N a)) (by omega) (by omega)).mpr c_7; omega
            refine lv_aload_n hx hb dX3_takesOrder_80 rfl (lv_at hl 0 rfl) ?_
            refine k_v (va_runV (As := []) (rest := []) ⟨hx, hb, hml, hown, hts⟩ (c_X3_skipBlanks l D cI cB cO H.size t0 t1 t2 t3 N o y T (by first | assumption | omega | exact skB_N (by assumption)) (by first | assumption | omega | exact skB_N (by assumption))) (cwV 0 hts gX3_takesOrder_X3_skipBlanks rfl rfl rfl (by decide +kernel) ⟨Nat.le_of_ble_eq_true rfl, Nat.le_of_ble_eq_true rfl⟩) (preV_of hK hP hD hS hA hSt [0, 2] (by decide) rfl 0 (ci := 3) rfl rfl) rfl rfl hl.1 rfl (lv_room (Nat.le_of_ble_eq_true rfl)) dX3_takesOrder_81 ⟨Nat.le_of_ble_eq_true rfl, Nat.le_of_ble_eq_true rfl⟩) hP hD hS hA [0, 2] [1, 3] [2, 0, 3, 1] [(t1, .inl (cB, 60, .inl (upd Lt o (bh T N a)))), (t3, .inl (cI, 240, .inl Nx))] (fun (u_8 : Unit) => [(t0, .inr (3, [.int (nI N), .int (nI o), .int (nI (skB T N y)), .ref t1, .ref t2, .ref t3])), (t1, .inl (cB, 60, .inl (upd Lt o (bh T N a)))), (t2, .inl (cB, 120, .inl T)), (t3, .inl (cI, 240, .inl Nx))]) rfl rfl (by decide) (by decide) (by decide) (fun _ => rfl) (fun u_8 H locs q_8 hP hD hS => ?_)
            refine lv_aload_n hx hb dX3_takesOrder_84 rfl (lv_at hl 0 rfl) ?_
            refine k_i (va_runV (As := []) (rest := []) ⟨hx, hb, hml, hown, hts⟩ (c_X3_byteHere l D cI cB cO H.size t0 t1 t2 t3 N o (skB T N y) T (by first | assumption | omega | exact skB_N (by assumption)) (by first | assumption | omega | exact skB_N (by assumption))) (cwV 0 hts gX3_takesOrder_X3_byteHere rfl rfl rfl (by decide +kernel) ⟨Nat.le_of_ble_eq_true rfl, Nat.le_of_ble_eq_true rfl⟩) (preV_of hK hP hD hS hA hSt [0, 2] (by decide) rfl 0 (ci := 3) rfl rfl) rfl rfl hl.1 rfl (lv_room (Nat.le_of_ble_eq_true rfl)) dX3_takesOrder_85 ⟨Nat.le_of_ble_eq_true rfl, Nat.le_of_ble_eq_true rfl⟩) hP hD hS hA [0, 2] [1, 3] [2, 0, 3, 1] [(t1, .inl (cB, 60, .inl (upd Lt o (bh T N a)))), (t3, .inl (cI, 240, .inl Nx))] (fun (u_9 : Unit) => [(t0, .inr (3, [.int (nI N), .int (nI o), .int (nI (skB T N y)), .ref t1, .ref t2, .ref t3])), (t1, .inl (cB, 60, .inl (upd Lt o (bh T N a)))), (t2, .inl (cB, 120, .inl T)), (t3, .inl (cI, 240, .inl Nx))]) rfl rfl (by decide) (by decide) (by decide) (fun _ => rfl) (fun r_9 u_9 H locs q_9 hP hD hS => ?_)
            obtain rfl : r_9 = bh T N (skB T N y) := q_9
            refine lv_bipush (v := 59) hx hb dX3_takesOrder_88 (by decide) ?_
            refine lv_icmp_eq (tgt := 95) hx hb dX3_takesOrder_90 (by decide) (fun c_10 => ?_) (fun c_10 => ?_)
            · refine lv_aload_n hx hb dX3_takesOrder_95 rfl (lv_at hl 0 rfl) ?_
              refine lv_dup hx hb dX3_takesOrder_96 rfl ?_
              refine va_get (D := D) (ci := 3) (v := .int (nI (skB T N y))) (C := RX3) (T := TX3) (N := 6) hx hb hts in_X3_takesOrder_3 hown hK hP 0 rfl rfl 2 (by decide) (hts (.fieldLink RX3 18 "HoseSpans$Text" "place" "I") (List.mem_of_getElem? (i := 3) (by decide +kernel))) (fun _ h9 => h9) rfl dX3_takesOrder_97 ?_
              refine lv_iconst (v := 1) hx hb dX3_takesOrder_100 (by decide) ?_
              refine lv_iadd hx hb dX3_takesOrder_101 ?_
              refine e_n (y := nI (skB T N y + 1)) (nI_add (skB T N y) 1) ?_
              refine va_put (D := D) (ci := 3) (v := .int (nI (skB T N y + 1))) (ty := .int) (C := RX3) (T := TX3) (N := 6) hx hb hts in_X3_takesOrder_3 tyX3 tyX3_ok nmX3 hown hK hP hD hS 0 rfl rfl 2 (by decide) (hts (.fieldLink RX3 18 "HoseSpans$Text" "place" "I") (List.mem_of_getElem? (i := 3) (by decide +kernel))) (fun _ h9 => h9) rfl (by decide +kernel) rfl rfl (Nat.le_of_ble_eq_true rfl) dX3_takesOrder_102 (fun H locs hP hD hS => ?_)
              have hP : va_P D vwCl [(t0, .inr (3, [.int (nI N), .int (nI o), .int (nI (skB T N y + 1)), .ref t1, .ref t2, .ref t3])), (t1, .inl (cB, 60, .inl (upd Lt o (bh T N a)))), (t2, .inl (cB, 120, .inl T)), (t3, .inl (cI, 240, .inl Nx))] H := hP
              have hD : va_D AM [(t0, .inr (3, [.int (nI N), .int (nI o), .int (nI (skB T N y + 1)), .ref t1, .ref t2, .ref t3])), (t1, .inl (cB, 60, .inl (upd Lt o (bh T N a)))), (t2, .inl (cB, 120, .inl T)), (t3, .inl (cI, 240, .inl Nx))] := hD
              rw [show (.int (nI (skB T N y + 1)) : Value) = .int (nI (ordR T N a).2) from congrArg Value.int (congrArg nI (by rw [oGo_e (by assumption), if_pos (by assumption)] at hI; exact congrArg Prod.snd hI))] at hP hD
              have hP : va_P D vwCl [(t0, .inr (3, [.int (nI N), .int (nI o), .int (nI (ordR T N a).2), .ref t1, .ref t2, .ref t3])), (t1, .inl (cB, 60, .inl (upd Lt o (bh T N a)))), (t2, .inl (cB, 120, .inl T)), (t3, .inl (cI, 240, .inl Nx))] H := hP
              have hD : va_D AM [(t0, .inr (3, [.int (nI N), .int (nI o), .int (nI (ordR T N a).2), .ref t1, .ref t2, .ref t3])), (t1, .inl (cB, 60, .inl (upd Lt o (bh T N a)))), (t2, .inl (cB, 120, .inl T)), (t3, .inl (cI, 240, .inl Nx))] := hD
              refine lv_iconst (v := 1) hx hb dX3_takesOrder_105 (by decide) ?_
              refine e_z (u := (upd Lt o (bh T N a), Nx)) hx hb hr (by first | rfl | exact bI_nar _) hlocks hP hD hS dX3_takesOrder_106 ?_ ?_
              · rfl
              · have hF : (true, skB T N y + 1) = ordR T N a := by rw [oGo_e (by assumption), if_pos (by assumption)] at hI; exact hI
                exact ⟨by rw [← hF]; rfl, fun _ => ⟨rfl, hj, fun k hk => hv k (by omega)⟩⟩
            · rw [show (.int (nI (skB T N y)) : Value) = .int (nI (ordR T N a).2) from congrArg Value.int (congrArg nI (by rw [oGo_e (by assumption), if_neg (by assumption)] at hI; exact congrArg Prod.snd hI))] at hP hD
              have hP : va_P D vwCl [(t0, .inr (3, [.int (nI N), .int (nI o), .int (nI (ordR T N a).2), .ref t1, .ref t2, .ref t3])), (t1, .inl (cB, 60, .inl (upd Lt o (bh T N a)))), (t2, .inl (cB, 120, .inl T)), (t3, .inl (cI, 240, .inl Nx))] H := hP
              have hD : va_D AM [(t0, .inr (3, [.int (nI N), .int (nI o), .int (nI (ordR T N a).2), .ref t1, .ref t2, .ref t3])), (t1, .inl (cB, 60, .inl (upd Lt o (bh T N a)))), (t2, .inl (cB, 120, .inl T)), (t3, .inl (cI, 240, .inl Nx))] := hD
              refine lv_iconst (v := 0) hx hb dX3_takesOrder_93 (by decide) ?_
              refine e_z (u := (upd Lt o (bh T N a), Nx)) hx hb hr (by first | rfl | exact bI_nar _) hlocks hP hD hS dX3_takesOrder_94 ?_ ?_
              · rfl
              · have hF : (false, skB T N y) = ordR T N a := by rw [oGo_e (by assumption), if_neg (by assumption)] at hI; exact hI
                exact ⟨by rw [← hF]; rfl, fun h => by rw [← hF] at h; cases h⟩
          · have c_7 := Int32.not_le.mp c_7
            have c_7 : w < nW (bh T N a) := (nI_ltI (by omega) (by omega)).mp c_7
            refine lv_aload_n hx hb dX3_takesOrder_44 rfl (lv_at hl 0 rfl) ?_
            refine k_v (va_runV (As := []) (rest := []) ⟨hx, hb, hml, hown, hts⟩ (c_X3_skipBlanks l D cI cB cO H.size t0 t1 t2 t3 N o y T (by first | assumption | omega | exact skB_N (by assumption)) (by first | assumption | omega | exact skB_N (by assumption))) (cwV 0 hts gX3_takesOrder_X3_skipBlanks rfl rfl rfl (by decide +kernel) ⟨Nat.le_of_ble_eq_true rfl, Nat.le_of_ble_eq_true rfl⟩) (preV_of hK hP hD hS hA hSt [0, 2] (by decide) rfl 0 (ci := 3) rfl rfl) rfl rfl hl.1 rfl (lv_room (Nat.le_of_ble_eq_true rfl)) dX3_takesOrder_45 ⟨Nat.le_of_ble_eq_true rfl, Nat.le_of_ble_eq_true rfl⟩) hP hD hS hA [0, 2] [1, 3] [2, 0, 3, 1] [(t1, .inl (cB, 60, .inl (upd Lt o (bh T N a)))), (t3, .inl (cI, 240, .inl Nx))] (fun (u_11 : Unit) => [(t0, .inr (3, [.int (nI N), .int (nI o), .int (nI (skB T N y)), .ref t1, .ref t2, .ref t3])), (t1, .inl (cB, 60, .inl (upd Lt o (bh T N a)))), (t2, .inl (cB, 120, .inl T)), (t3, .inl (cI, 240, .inl Nx))]) rfl rfl (by decide) (by decide) (by decide) (fun _ => rfl) (fun u_11 H locs q_11 hP hD hS => ?_)
            have jn_12 : ∀ (H : Heap) (locs : List Loc), va_P D vwCl [(t0, .inr (3, [.int (nI N), .int (nI o), .int (nI (skB T N y)), .ref t1, .ref t2, .ref t3])), (t1, .inl (cB, 60, .inl (upd Lt o (bh T N a)))), (t2, .inl (cB, 120, .inl T)), (t3, .inl (cI, 240, .inl Nx))] H → va_D AM [(t0, .inr (3, [.int (nI N), .int (nI o), .int (nI (skB T N y)), .ref t1, .ref t2, .ref t3])), (t1, .inl (cB, 60, .inl (upd Lt o (bh T N a)))), (t2, .inl (cB, 120, .inl T)), (t3, .inl (cI, 240, .inl Nx))] → va_S AM sM.heap H locs → ∀ (ls : Array Slot), lv_has ls 4 [(0, .ref t0), (1, .int (bh T N a)), (2, .int (nI (nW (bh T N a)))), (3, .int (nI w))] → W pM l eM ({ frames := 3, cells := 0, slots := 0, locals := 67 } : Room) sM mM ([.ref t0] : List Value).toArray below meth cM H locs 0 0 (MQ below (QI D (fun (ans : Int32) (u : (Nat → Int32) × (Nat → Int32)) => ans = bI (ordR T N a).1 ∧ ((ordR T N a).1 = true → u.1 = upd Lt o (bh T N a) ∧ (∀ j, j < o * 4 → u.2 j = Nm j) ∧ ∀ k, k < nW (bh T N a) → u.2 (o * 4 + k) = oV T N a k)) (fun (u : (Nat → Int32) × (Nat → Int32)) => [(t0, .inr (3, [.int (nI N), .int (nI o), .int (nI (ordR T N a).2), .ref t1, .ref t2, .ref t3])), (t1, .inl (cB, 60, .inl u.1)), (t2, .inl (cB, 120, .inl T)), (t3, .inl (cI, 240, .inl u.2))]) AM) ([.ref t0] : List Value).toArray sM 0 0 AM) (F0 mM 66 ls [.int (bI (mayB (bh T N a) w)), .int (nI w), .ref t0]) := by
              intro  H locs hP hD hS ls hl
              refine k_i (va_runV (As := [.int (nI w), .int (bI (mayB (bh T N a) w))]) (rest := []) ⟨hx, hb, hml, hown, hts⟩ (c_X3_takesNumber l D cI cB cO H.size t0 t1 t2 t3 N o (skB T N y) T w (mayB (bh T N a) w) Nx (by first | assumption | omega | exact skB_N (by assumption)) (by first | assumption | omega | exact skB_N (by assumption)) (by first | assumption | omega | exact skB_N (by assumption))) (cwV 2 hts gX3_takesOrder_X3_takesNumber rfl rfl rfl (by decide +kernel) ⟨Nat.le_of_ble_eq_true rfl, Nat.le_of_ble_eq_true rfl⟩) (preV_of hK hP hD hS hA hSt [0, 2, 3] (by decide) rfl 0 (ci := 3) rfl rfl) rfl rfl hl.1 rfl (lv_room (Nat.le_of_ble_eq_true rfl)) dX3_takesOrder_66 ⟨Nat.le_of_ble_eq_true rfl, Nat.le_of_ble_eq_true rfl⟩) hP hD hS hA [0, 2, 3] [1] [1, 0, 2, 3] [(t1, .inl (cB, 60, .inl (upd Lt o (bh T N a))))] (fun (u_13 : Unit) => [(t0, .inr (3, [.int (nI N), .int (nI o), .int (nI (nEnd T N (mayB (bh T N a) w) (skB T N y))), .ref t1, .ref t2, .ref t3])), (t1, .inl (cB, 60, .inl (upd Lt o (bh T N a)))), (t2, .inl (cB, 120, .inl T)), (t3, .inl (cI, 240, .inl (if fig T N (nSt T N (mayB (bh T N a) w) (skB T N y)) = true then upd Nx (o * 4 + w) (nVal T N (mayB (bh T N a) w) (skB T N y)) else Nx)))]) rfl rfl (by decide) (by decide) (by decide) (fun _ => rfl) (fun r_13 u_13 H locs q_13 hP hD hS => ?_)
              obtain rfl : r_13 = bI (nOk T N (mayB (bh T N a) w) (skB T N y)) := q_13
              refine lv_if_ne (tgt := 74) hx hb dX3_takesOrder_69 (by decide) (fun c_14 => ?_) (fun c_14 => ?_)
              · have c_14 := bI_n0.mp c_14
                rw [show (if fig T N (nSt T N (mayB (bh T N a) w) (skB T N y)) = true then upd Nx (o * 4 + w) (nVal T N (mayB (bh T N a) w) (skB T N y)) else Nx) = (upd Nx (o * 4 + w) (oV T N a w)) from (by subst hp; exact if_pos (nOk_s (by assumption)))] at hP hD
                have hP : va_P D vwCl [(t0, .inr (3, [.int (nI N), .int (nI o), .int (nI (nEnd T N (mayB (bh T N a) w) (skB T N y))), .ref t1, .ref t2, .ref t3])), (t1, .inl (cB, 60, .inl (upd Lt o (bh T N a)))), (t2, .inl (cB, 120, .inl T)), (t3, .inl (cI, 240, .inl (upd Nx (o * 4 + w) (oV T N a w))))] H := hP
                have hD : va_D AM [(t0, .inr (3, [.int (nI N), .int (nI o), .int (nI (nEnd T N (mayB (bh T N a) w) (skB T N y))), .ref t1, .ref t2, .ref t3])), (t1, .inl (cB, 60, .inl (upd Lt o (bh T N a)))), (t2, .inl (cB, 120, .inl T)), (t3, .inl (cI, 240, .inl (upd Nx (o * 4 + w) (oV T N a w))))] := hD
                have hvs : ∀ k, k < w + 1 → upd Nx (o * 4 + w) (oV T N a w) (o * 4 + k) = oV T N a k := fun k h => by
                  by_cases hk : k = w
                  · rw [hk, pk_us]
                  · rw [pk_un (by omega)]; exact hv k (by omega)
                refine lv_iinc (v := nI (w + 1)) (lv' := [(3, .int (nI (w + 1))), (0, .ref t0), (1, .int (bh T N a)), (2, .int (nI (nW (bh T N a))))]) hx hb dX3_takesOrder_74 hl (k := 3) rfl (nI_add w 1) (by decide) rfl (fun ls hl => ?_)
                refine lv_goto (tgt := 39) hx hb dX3_takesOrder_77 (by decide) ?_
                have hl9 : lv_has ls 4 [(0, .ref t0), (1, .int (bh T N a)), (2, .int (nI (nW (bh T N a)))), (3, .int (nI (w + 1)))] := lv_sub hl [1, 2, 3, 0] rfl
                exact ih_6 (w + 1) (nEnd T N (mayB (bh T N a) w) (skB T N y)) (upd Nx (o * 4 + w) (oV T N a w)) (by first | assumption | omega | exact skB_N (by assumption)) (by exact (nEnd_N (skB_N hy)).2) (by rw [oGo_s (k := 0) (by assumption), if_pos (by assumption)] at hI; exact hI) (by subst hp; rfl) (by exact fun j h => (pk_un (by omega)).trans (hj j h)) (by exact hvs) (by omega) H locs hP hD hS ls hl9
              · have c_14 := bI_0.mp c_14
                rw [show (.int (nI (nEnd T N (mayB (bh T N a) w) (skB T N y))) : Value) = .int (nI (ordR T N a).2) from congrArg Value.int (congrArg nI (by rw [oGo_s (k := 0) (by assumption), if_neg (by rw [show nOk T N (mayB (bh T N a) w) (skB T N y) = false by assumption]; decide)] at hI; exact congrArg Prod.snd hI))] at hP hD
                have hP : va_P D vwCl [(t0, .inr (3, [.int (nI N), .int (nI o), .int (nI (ordR T N a).2), .ref t1, .ref t2, .ref t3])), (t1, .inl (cB, 60, .inl (upd Lt o (bh T N a)))), (t2, .inl (cB, 120, .inl T)), (t3, .inl (cI, 240, .inl (if fig T N (nSt T N (mayB (bh T N a) w) (skB T N y)) = true then upd Nx (o * 4 + w) (nVal T N (mayB (bh T N a) w) (skB T N y)) else Nx)))] H := hP
                have hD : va_D AM [(t0, .inr (3, [.int (nI N), .int (nI o), .int (nI (ordR T N a).2), .ref t1, .ref t2, .ref t3])), (t1, .inl (cB, 60, .inl (upd Lt o (bh T N a)))), (t2, .inl (cB, 120, .inl T)), (t3, .inl (cI, 240, .inl (if fig T N (nSt T N (mayB (bh T N a) w) (skB T N y)) = true then upd Nx (o * 4 + w) (nVal T N (mayB (bh T N a) w) (skB T N y)) else Nx)))] := hD
                refine lv_iconst (v := 0) hx hb dX3_takesOrder_72 (by decide) ?_
                refine e_z (u := (upd Lt o (bh T N a), if fig T N (nSt T N (mayB (bh T N a) w) (skB T N y)) = true then upd Nx (o * 4 + w) (nVal T N (mayB (bh T N a) w) (skB T N y)) else Nx)) hx hb hr (by first | rfl | exact bI_nar _) hlocks hP hD hS dX3_takesOrder_73 ?_ ?_
                · rfl
                · have hF : (false, nEnd T N (mayB (bh T N a) w) (skB T N y)) = ordR T N a := by rw [oGo_s (k := 0) (by assumption), if_neg (by rw [show nOk T N (mayB (bh T N a) w) (skB T N y) = false by assumption]; decide)] at hI; exact hI
                  exact ⟨by rw [← hF]; rfl, fun h => by rw [← hF] at h; cases h⟩
            refine lv_aload_n hx hb dX3_takesOrder_48 rfl (lv_at hl 0 rfl) ?_
            refine lv_iload_n hx hb dX3_takesOrder_49 rfl (lv_at hl 3 rfl) ?_
            refine lv_iload_n hx hb dX3_takesOrder_50 rfl (lv_at hl 1 rfl) ?_
            refine lv_bipush (v := 104) hx hb dX3_takesOrder_51 (by decide) ?_
            refine lv_icmp_ne (tgt := 65) hx hb dX3_takesOrder_53 (by decide) (fun c_15 => ?_) (fun c_15 => ?_)
            · refine lv_iconst (v := 0) hx hb dX3_takesOrder_65 (by decide) ?_
              refine e_n (y := bI (mayB (bh T N a) w)) (by first | exact bI_f (mayB_1 (by assumption)) | exact bI_f (mayB_2 (by assumption)) | exact bI_t (mayB_3 (by assumption) (by assumption))) ?_
              exact jn_12  H locs hP hD hS ls (lv_sub hl [0, 1, 2, 3] rfl)
            · refine lv_iload_n hx hb dX3_takesOrder_56 rfl (lv_at hl 3 rfl) ?_
              refine lv_iconst (v := 2) hx hb dX3_takesOrder_57 (by decide) ?_
              refine lv_icmp_ne (tgt := 65) hx hb dX3_takesOrder_58 (by decide) (fun c_16 => ?_) (fun c_16 => ?_)
              · have c_16 : ¬ w = 2 := fun h => c_16 (by rw [h]; rfl)
                refine lv_iconst (v := 0) hx hb dX3_takesOrder_65 (by decide) ?_
                refine e_n (y := bI (mayB (bh T N a) w)) (by first | exact bI_f (mayB_1 (by assumption)) | exact bI_f (mayB_2 (by assumption)) | exact bI_t (mayB_3 (by assumption) (by assumption))) ?_
                exact jn_12  H locs hP hD hS ls (lv_sub hl [0, 1, 2, 3] rfl)
              · have c_16 : w = 2 := (nI_eq (b := 2) (by omega) (by decide)).mp c_16
                refine lv_iconst (v := 1) hx hb dX3_takesOrder_61 (by decide) ?_
                refine lv_goto (tgt := 66) hx hb dX3_takesOrder_62 (by decide) ?_
                refine e_n (y := bI (mayB (bh T N a) w)) (by first | exact bI_f (mayB_1 (by assumption)) | exact bI_f (mayB_2 (by assumption)) | exact bI_t (mayB_3 (by assumption) (by assumption))) ?_
                exact jn_12  H locs hP hD hS ls (lv_sub hl [0, 1, 2, 3] rfl)
      have hl9 : lv_has ls 4 [(0, .ref t0), (1, .int (bh T N a)), (2, .int (nI (nW (bh T N a)))), (3, .int 0)] := lv_sub hl [3, 2, 1, 0] rfl
      rw [show ([(0, .ref t0), (1, .int (bh T N a)), (2, .int (nI (nW (bh T N a)))), (3, .int 0)] : List (Nat × Value)) = [(0, .ref t0), (1, .int (bh T N a)), (2, .int (nI (nW (bh T N a)))), (3, .int (nI 0))] from rfl] at hl9
      exact lp_5 ((nW (bh T N a) - 0) + 1) 0 (a + 1) Nm (by exact Nat.zero_le _) (by exact hlt) (by exact (ordR_g hw5).symm) (by rfl) (by exact fun _ _ => rfl) (by exact fun k h => absurd h (Nat.not_lt_zero k)) (Nat.lt_succ_self _) H locs hP hD hS ls hl9
    · have c_4 := Int32.not_le.mp c_4
      exact absurd c_4 (nI_pos (by have := nW_4 hw5; omega))
theorem in_X3_isRead_3 : ∀ w ∈ wsX30, w ∈ wsX3_isRead := fun _ h => List.mem_cons_of_mem _ (List.mem_append_right _ h)
set_option maxHeartbeats 4000000 in
set_option maxRecDepth 100000 in
theorem c_X3_isRead (l : Launch) (D : va_G) (cI cB cO : ClassId) (sz : Nat) (t0 t1 t2 t3 N o a : Nat) (T Lt Nm : Nat → Int32) (hN : N ≤ 120) : CI l yX3_isRead wsX3_isRead ({ frames := 4, cells := 0, slots := 0, locals := 90 } : Room) D (tyL cI cB cO) [.ref t0] [(t0, .inr (3, [.int (nI N), .int (nI o), .int (nI a), .ref t1, .ref t2, .ref t3])), (t1, .inl (cB, 60, .inl Lt)), (t2, .inl (cB, 120, .inl T)), (t3, .inl (cI, 240, .inl Nm))] sz (fun (ans : Int32) (u : Nat × (Nat → Int32) × (Nat → Int32)) => ans = bI (txt T N).1 ∧ ((txt T N).1 = true → u.1 = (txt T N).2.2 ∧ keptO T N u.1 u.2.1 u.2.2)) (fun (u : Nat × (Nat → Int32) × (Nat → Int32)) => [(t0, .inr (3, [.int (nI N), .int (nI u.1), .int (nI (txt T N).2.1), .ref t1, .ref t2, .ref t3])), (t1, .inl (cB, 60, .inl u.2.1)), (t2, .inl (cB, 120, .inl T)), (t3, .inl (cI, 240, .inl u.2.2))]) 0 0 := by
  refine ct_of (cc := cX3_isRead) (maxL := 1) (ret := some .boolean) (own := RX3) (Qc := QI D (fun (ans : Int32) (u : Nat × (Nat → Int32) × (Nat → Int32)) => ans = bI (txt T N).1 ∧ ((txt T N).1 = true → u.1 = (txt T N).2.2 ∧ keptO T N u.1 u.2.1 u.2.2)) (fun (u : Nat × (Nat → Int32) × (Nat → Int32)) => [(t0, .inr (3, [.int (nI N), .int (nI u.1), .int (nI (txt T N).2.1), .ref t1, .ref t2, .ref t3])), (t1, .inl (cB, 60, .inl u.2.1)), (t2, .inl (cB, 120, .inl T)), (t3, .inl (cI, 240, .inl u.2.2))])) (by decide) rfl rfl (Nat.le_of_ble_eq_true rfl) ?_
  intro pM eM sM mM below meth cM AM ls H locs hx hb hr hts hown hlocks hml hin hK hP hD hS hA hSt hl
  have hl : lv_has ls 1 [(0, .ref t0)] := hl
  refine lv_aload_n hx hb dX3_isRead_0 rfl (lv_at hl 0 rfl) ?_
  refine lv_iconst (v := 0) hx hb dX3_isRead_1 (by decide) ?_
  refine va_put (D := D) (ci := 3) (v := .int 0) (ty := .int) (C := RX3) (T := TX3) (N := 6) hx hb hts in_X3_isRead_3 tyX3 tyX3_ok nmX3 hown hK hP hD hS 0 rfl rfl 1 (by decide) (hts (.fieldLink RX3 15 "HoseSpans$Text" "orders" "I") (List.mem_of_getElem? (i := 1) (by decide +kernel))) (fun _ h9 => h9) rfl (by decide +kernel) rfl rfl (Nat.le_of_ble_eq_true rfl) dX3_isRead_2 (fun H locs hP hD hS => ?_)
  have hP : va_P D vwCl [(t0, .inr (3, [.int (nI N), .int 0, .int (nI a), .ref t1, .ref t2, .ref t3])), (t1, .inl (cB, 60, .inl Lt)), (t2, .inl (cB, 120, .inl T)), (t3, .inl (cI, 240, .inl Nm))] H := hP
  have hD : va_D AM [(t0, .inr (3, [.int (nI N), .int 0, .int (nI a), .ref t1, .ref t2, .ref t3])), (t1, .inl (cB, 60, .inl Lt)), (t2, .inl (cB, 120, .inl T)), (t3, .inl (cI, 240, .inl Nm))] := hD
  refine lv_aload_n hx hb dX3_isRead_5 rfl (lv_at hl 0 rfl) ?_
  refine lv_iconst (v := 0) hx hb dX3_isRead_6 (by decide) ?_
  refine va_put (D := D) (ci := 3) (v := .int 0) (ty := .int) (C := RX3) (T := TX3) (N := 6) hx hb hts in_X3_isRead_3 tyX3 tyX3_ok nmX3 hown hK hP hD hS 0 rfl rfl 2 (by decide) (hts (.fieldLink RX3 18 "HoseSpans$Text" "place" "I") (List.mem_of_getElem? (i := 2) (by decide +kernel))) (fun _ h9 => h9) rfl (by decide +kernel) rfl rfl (Nat.le_of_ble_eq_true rfl) dX3_isRead_7 (fun H locs hP hD hS => ?_)
  have hP : va_P D vwCl [(t0, .inr (3, [.int (nI N), .int 0, .int 0, .ref t1, .ref t2, .ref t3])), (t1, .inl (cB, 60, .inl Lt)), (t2, .inl (cB, 120, .inl T)), (t3, .inl (cI, 240, .inl Nm))] H := hP
  have hD : va_D AM [(t0, .inr (3, [.int (nI N), .int 0, .int 0, .ref t1, .ref t2, .ref t3])), (t1, .inl (cB, 60, .inl Lt)), (t2, .inl (cB, 120, .inl T)), (t3, .inl (cI, 240, .inl Nm))] := hD
  refine lv_aload_n hx hb dX3_isRead_10 rfl (lv_at hl 0 rfl) ?_
  refine k_v (va_runV (As := []) (rest := []) ⟨hx, hb, hml, hown, hts⟩ (c_X3_skipBlanks l D cI cB cO H.size t0 t1 t2 t3 N 0 0 T (by first | assumption | omega | exact skB_N (by omega) | exact (ordR_N (by assumption)).2.1) (by first | assumption | omega | exact skB_N (by omega) | exact (ordR_N (by assumption)).2.1)) (cwV 0 hts gX3_isRead_X3_skipBlanks rfl rfl rfl (by decide +kernel) ⟨Nat.le_of_ble_eq_true rfl, Nat.le_of_ble_eq_true rfl⟩) (preV_of hK hP hD hS hA hSt [0, 2] (by decide) rfl 0 (ci := 3) rfl rfl) rfl rfl hl.1 rfl (lv_room (Nat.le_of_ble_eq_true rfl)) dX3_isRead_11 ⟨Nat.le_of_ble_eq_true rfl, Nat.le_of_ble_eq_true rfl⟩) hP hD hS hA [0, 2] [1, 3] [2, 0, 3, 1] [(t1, .inl (cB, 60, .inl Lt)), (t3, .inl (cI, 240, .inl Nm))] (fun (u_1 : Unit) => [(t0, .inr (3, [.int (nI N), .int (nI 0), .int (nI (skB T N 0)), .ref t1, .ref t2, .ref t3])), (t1, .inl (cB, 60, .inl Lt)), (t2, .inl (cB, 120, .inl T)), (t3, .inl (cI, 240, .inl Nm))]) rfl rfl (by decide) (by decide) (by decide) (fun _ => rfl) (fun u_1 H locs q_1 hP hD hS => ?_)
  have lp_2 : ∀ (nn : Nat) (x y k : Nat) (Lx Nx : Nat → Int32), (y ≤ N) → (2 * x ≤ y) → (N + 1 ≤ y + k) → (y = oP T N x) → (tx T N k x y = txt T N) → (keptO T N x Lx Nx) → (N - y) < nn → ∀ (H : Heap) (locs : List Loc), va_P D vwCl [(t0, .inr (3, [.int (nI N), .int (nI x), .int (nI y), .ref t1, .ref t2, .ref t3])), (t1, .inl (cB, 60, .inl Lx)), (t2, .inl (cB, 120, .inl T)), (t3, .inl (cI, 240, .inl Nx))] H → va_D AM [(t0, .inr (3, [.int (nI N), .int (nI x), .int (nI y), .ref t1, .ref t2, .ref t3])), (t1, .inl (cB, 60, .inl Lx)), (t2, .inl (cB, 120, .inl T)), (t3, .inl (cI, 240, .inl Nx))] → va_S AM sM.heap H locs → ∀ (ls : Array Slot), lv_has ls 1 [(0, .ref t0)] → W pM l eM ({ frames := 4, cells := 0, slots := 0, locals := 90 } : Room) sM mM ([.ref t0] : List Value).toArray below meth cM H locs 0 0 (MQ below (QI D (fun (ans : Int32) (u : Nat × (Nat → Int32) × (Nat → Int32)) => ans = bI (txt T N).1 ∧ ((txt T N).1 = true → u.1 = (txt T N).2.2 ∧ keptO T N u.1 u.2.1 u.2.2)) (fun (u : Nat × (Nat → Int32) × (Nat → Int32)) => [(t0, .inr (3, [.int (nI N), .int (nI u.1), .int (nI (txt T N).2.1), .ref t1, .ref t2, .ref t3])), (t1, .inl (cB, 60, .inl u.2.1)), (t2, .inl (cB, 120, .inl T)), (t3, .inl (cI, 240, .inl u.2.2))]) AM) ([.ref t0] : List Value).toArray sM 0 0 AM) (F0 mM 14 ls []) := by
    intro nn
    induction nn with
    | zero =>
      intro x y k Lx Nx hy hxx hk hp hI hL hm
      exact absurd hm (Nat.not_lt_zero _)
    | succ nn ih_3 =>
      intro x y k Lx Nx hy hxx hk hp hI hL hm H locs hP hD hS ls hl
      refine lv_aload_n hx hb dX3_isRead_14 rfl (lv_at hl 0 rfl) ?_
      refine va_get (D := D) (ci := 3) (v := .int (nI y)) (C := RX3) (T := TX3) (N := 6) hx hb hts in_X3_isRead_3 hown hK hP 0 rfl rfl 2 (by decide) (hts (.fieldLink RX3 18 "HoseSpans$Text" "place" "I") (List.mem_of_getElem? (i := 2) (by decide +kernel))) (fun _ h9 => h9) rfl dX3_isRead_15 ?_
      refine lv_aload_n hx hb dX3_isRead_18 rfl (lv_at hl 0 rfl) ?_
      refine va_get (D := D) (ci := 3) (v := .int (nI N)) (C := RX3) (T := TX3) (N := 6) hx hb hts in_X3_isRead_3 hown hK hP 0 rfl rfl 0 (by decide) (hts (.fieldLink RX3 9 "HoseSpans$Text" "length" "I") (List.mem_of_getElem? (i := 3) (by decide +kernel))) (fun _ h9 => h9) rfl dX3_isRead_19 ?_
      refine lv_icmp_ge (tgt := 60) hx hb dX3_isRead_22 (by decide) (fun c_4 => ?_) (fun c_4 => ?_)
      · have c_4 := Int32.not_lt.mpr c_4
        have c_4 : ¬ y < N := fun h => c_4 ((nI_ltI (a := y) (b := N) (by omega) (by omega)).mpr h)
        have hE : (decide (0 < x), y, x) = txt T N := (tx_e (by assumption)).symm.trans hI
        rw [show (.int (nI y) : Value) = .int (nI (txt T N).2.1) from congrArg Value.int (congrArg (fun z : Bool × Nat × Nat => nI z.2.1) hE)] at hP hD
        have hP : va_P D vwCl [(t0, .inr (3, [.int (nI N), .int (nI x), .int (nI (txt T N).2.1), .ref t1, .ref t2, .ref t3])), (t1, .inl (cB, 60, .inl Lx)), (t2, .inl (cB, 120, .inl T)), (t3, .inl (cI, 240, .inl Nx))] H := hP
        have hD : va_D AM [(t0, .inr (3, [.int (nI N), .int (nI x), .int (nI (txt T N).2.1), .ref t1, .ref t2, .ref t3])), (t1, .inl (cB, 60, .inl Lx)), (t2, .inl (cB, 120, .inl T)), (t3, .inl (cI, 240, .inl Nx))] := hD
        refine lv_aload_n hx hb dX3_isRead_60 rfl (lv_at hl 0 rfl) ?_
        refine va_get (D := D) (ci := 3) (v := .int (nI x)) (C := RX3) (T := TX3) (N := 6) hx hb hts in_X3_isRead_3 hown hK hP 0 rfl rfl 1 (by decide) (hts (.fieldLink RX3 15 "HoseSpans$Text" "orders" "I") (List.mem_of_getElem? (i := 1) (by decide +kernel))) (fun _ h9 => h9) rfl dX3_isRead_61 ?_
        refine lv_if_le (tgt := 71) hx hb dX3_isRead_64 (by decide) (fun c_5 => ?_) (fun c_5 => ?_)
        · have c_5 := Int32.not_lt.mpr c_5
          have c_5 : ¬ 0 < x := fun h => c_5 ((nI_ltI (a := 0) (b := x) (by decide) (by omega)).mpr h)
          refine lv_iconst (v := 0) hx hb dX3_isRead_71 (by decide) ?_
          refine e_z (u := (x, Lx, Nx)) hx hb hr (by first | rfl | exact bI_nar _) hlocks hP hD hS dX3_isRead_72 ?_ ?_
          · rfl
          · first | exact ⟨by rw [← hE]; exact bI_t (decide_eq_true (by assumption)), fun _ => ⟨by rw [← hE], hL⟩⟩ | exact ⟨by rw [← hE]; exact bI_f (decide_eq_false (by assumption)), fun _ => ⟨by rw [← hE], hL⟩⟩
        · have c_5 := Int32.not_le.mp c_5
          have c_5 : 0 < x := (nI_ltI (a := 0) (b := x) (by decide) (by omega)).mp c_5
          refine lv_iconst (v := 1) hx hb dX3_isRead_67 (by decide) ?_
          refine lv_goto (tgt := 72) hx hb dX3_isRead_68 (by decide) ?_
          refine e_z (u := (x, Lx, Nx)) hx hb hr (by first | rfl | exact bI_nar _) hlocks hP hD hS dX3_isRead_72 ?_ ?_
          · rfl
          · first | exact ⟨by rw [← hE]; exact bI_t (decide_eq_true (by assumption)), fun _ => ⟨by rw [← hE], hL⟩⟩ | exact ⟨by rw [← hE]; exact bI_f (decide_eq_false (by assumption)), fun _ => ⟨by rw [← hE], hL⟩⟩
      · have c_4 := Int32.not_le.mp c_4
        have c_4 : y < N := (nI_ltI (by omega) (by omega)).mp c_4
        refine lv_aload_n hx hb dX3_isRead_25 rfl (lv_at hl 0 rfl) ?_
        refine va_get (D := D) (ci := 3) (v := .int (nI x)) (C := RX3) (T := TX3) (N := 6) hx hb hts in_X3_isRead_3 hown hK hP 0 rfl rfl 1 (by decide) (hts (.fieldLink RX3 15 "HoseSpans$Text" "orders" "I") (List.mem_of_getElem? (i := 1) (by decide +kernel))) (fun _ h9 => h9) rfl dX3_isRead_26 ?_
        refine lv_bipush (v := 60) hx hb dX3_isRead_29 (by decide) ?_
        refine lv_icmp_ge (tgt := 60) hx hb dX3_isRead_31 (by decide) (fun c_6 => ?_) (fun c_6 => ?_)
        · have c_6 := Int32.not_lt.mpr c_6
          exact absurd ((nI_ltI (a := x) (b := 60) (by omega) (by decide)).mpr (by omega)) c_6
        · have c_6 := Int32.not_le.mp c_6
          have hx6 : x < 60 := (nI_ltI (a := x) (b := 60) (by omega) (by decide)).mp c_6
          refine lv_aload_n hx hb dX3_isRead_34 rfl (lv_at hl 0 rfl) ?_
          refine k_i (va_runV (As := []) (rest := []) ⟨hx, hb, hml, hown, hts⟩ (c_X3_takesOrder l D cI cB cO H.size t0 t1 t2 t3 N x y T Lx Nx (by first | assumption | omega | exact skB_N (by omega) | exact (ordR_N (by assumption)).2.1) (by first | assumption | omega | exact skB_N (by omega) | exact (ordR_N (by assumption)).2.1) (by first | assumption | omega | exact skB_N (by omega) | exact (ordR_N (by assumption)).2.1)) (cwV 0 hts gX3_isRead_X3_takesOrder rfl rfl rfl (by decide +kernel) ⟨Nat.le_of_ble_eq_true rfl, Nat.le_of_ble_eq_true rfl⟩) (preV_of hK hP hD hS hA hSt [0, 1, 2, 3] (by decide) rfl 0 (ci := 3) rfl rfl) rfl rfl hl.1 rfl (lv_room (Nat.le_of_ble_eq_true rfl)) dX3_isRead_35 ⟨Nat.le_of_ble_eq_true rfl, Nat.le_of_ble_eq_true rfl⟩) hP hD hS hA [0, 1, 2, 3] [] [0, 1, 2, 3] [] (fun (u_7 : (Nat → Int32) × (Nat → Int32)) => [(t0, .inr (3, [.int (nI N), .int (nI x), .int (nI (ordR T N y).2), .ref t1, .ref t2, .ref t3])), (t1, .inl (cB, 60, .inl u_7.1)), (t2, .inl (cB, 120, .inl T)), (t3, .inl (cI, 240, .inl u_7.2))]) rfl rfl (by decide) (by decide) (by decide) (fun _ => rfl) (fun r_7 u_7 H locs q_7 hP hD hS => ?_)
          obtain ⟨rfl, hq2⟩ := q_7
          refine lv_if_ne (tgt := 43) hx hb dX3_isRead_38 (by decide) (fun c_8 => ?_) (fun c_8 => ?_)
          · have c_8 := bI_n0.mp c_8
            have hok := c_8
            refine lv_aload_n hx hb dX3_isRead_43 rfl (lv_at hl 0 rfl) ?_
            refine lv_dup hx hb dX3_isRead_44 rfl ?_
            refine va_get (D := D) (ci := 3) (v := .int (nI x)) (C := RX3) (T := TX3) (N := 6) hx hb hts in_X3_isRead_3 hown hK hP 0 rfl rfl 1 (by decide) (hts (.fieldLink RX3 15 "HoseSpans$Text" "orders" "I") (List.mem_of_getElem? (i := 1) (by decide +kernel))) (fun _ h9 => h9) rfl dX3_isRead_45 ?_
            refine lv_iconst (v := 1) hx hb dX3_isRead_48 (by decide) ?_
            refine lv_iadd hx hb dX3_isRead_49 ?_
            refine e_n (y := nI (x + 1)) (nI_add x 1) ?_
            refine va_put (D := D) (ci := 3) (v := .int (nI (x + 1))) (ty := .int) (C := RX3) (T := TX3) (N := 6) hx hb hts in_X3_isRead_3 tyX3 tyX3_ok nmX3 hown hK hP hD hS 0 rfl rfl 1 (by decide) (hts (.fieldLink RX3 15 "HoseSpans$Text" "orders" "I") (List.mem_of_getElem? (i := 1) (by decide +kernel))) (fun _ h9 => h9) rfl (by decide +kernel) rfl rfl (Nat.le_of_ble_eq_true rfl) dX3_isRead_50 (fun H locs hP hD hS => ?_)
            have hP : va_P D vwCl [(t0, .inr (3, [.int (nI N), .int (nI (x + 1)), .int (nI (ordR T N y).2), .ref t1, .ref t2, .ref t3])), (t1, .inl (cB, 60, .inl u_7.1)), (t2, .inl (cB, 120, .inl T)), (t3, .inl (cI, 240, .inl u_7.2))] H := hP
            have hD : va_D AM [(t0, .inr (3, [.int (nI N), .int (nI (x + 1)), .int (nI (ordR T N y).2), .ref t1, .ref t2, .ref t3])), (t1, .inl (cB, 60, .inl u_7.1)), (t2, .inl (cB, 120, .inl T)), (t3, .inl (cI, 240, .inl u_7.2))] := hD
            refine lv_aload_n hx hb dX3_isRead_53 rfl (lv_at hl 0 rfl) ?_
            refine k_v (va_runV (As := []) (rest := []) ⟨hx, hb, hml, hown, hts⟩ (c_X3_skipBlanks l D cI cB cO H.size t0 t1 t2 t3 N (x + 1) ((ordR T N y).2) T (by first | assumption | omega | exact skB_N (by omega) | exact (ordR_N (by assumption)).2.1) (by first | assumption | omega | exact skB_N (by omega) | exact (ordR_N (by assumption)).2.1)) (cwV 0 hts gX3_isRead_X3_skipBlanks rfl rfl rfl (by decide +kernel) ⟨Nat.le_of_ble_eq_true rfl, Nat.le_of_ble_eq_true rfl⟩) (preV_of hK hP hD hS hA hSt [0, 2] (by decide) rfl 0 (ci := 3) rfl rfl) rfl rfl hl.1 rfl (lv_room (Nat.le_of_ble_eq_true rfl)) dX3_isRead_54 ⟨Nat.le_of_ble_eq_true rfl, Nat.le_of_ble_eq_true rfl⟩) hP hD hS hA [0, 2] [1, 3] [2, 0, 3, 1] [(t1, .inl (cB, 60, .inl u_7.1)), (t3, .inl (cI, 240, .inl u_7.2))] (fun (u_9 : Unit) => [(t0, .inr (3, [.int (nI N), .int (nI (x + 1)), .int (nI (skB T N ((ordR T N y).2))), .ref t1, .ref t2, .ref t3])), (t1, .inl (cB, 60, .inl u_7.1)), (t2, .inl (cB, 120, .inl T)), (t3, .inl (cI, 240, .inl u_7.2))]) rfl rfl (by decide) (by decide) (by decide) (fun _ => rfl) (fun u_9 H locs q_9 hP hD hS => ?_)
            refine lv_goto (tgt := 14) hx hb dX3_isRead_57 (by decide) ?_
            have hl9 : lv_has ls 1 [(0, .ref t0)] := lv_sub hl [0] rfl
            exact ih_3 (x + 1) (skB T N ((ordR T N y).2)) (k - 1) u_7.1 u_7.2 (by exact skB_N (ordR_N hy).2.1) (by have h7 := ((ordR_N hy).2.2 hok).1; have h8 := skB_le (T := T) (N := N) (a := (ordR T N y).2); omega) (by have h7 := ((ordR_N hy).2.2 hok).1; have h8 := skB_le (T := T) (N := N) (a := (ordR T N y).2); omega) (by subst hp; rfl) (by rw [tx_s (by omega) (by assumption), if_pos hok] at hI; exact hI) (by exact keptO_s hL hp hok (by assumption) (hq2 hok).1 (hq2 hok).2.1 (hq2 hok).2.2 (fun j => ordR_W)) (by have h7 := ((ordR_N hy).2.2 hok).1; have h8 := skB_le (T := T) (N := N) (a := (ordR T N y).2); omega) H locs hP hD hS ls hl9
          · have c_8 := bI_0.mp c_8
            have hF : (false, (ordR T N y).2, x) = txt T N := by rw [tx_s (by omega) (by assumption), if_neg (by rw [c_8]; decide)] at hI; exact hI
            rw [show (.int (nI (ordR T N y).2) : Value) = .int (nI (txt T N).2.1) from congrArg Value.int (congrArg (fun z : Bool × Nat × Nat => nI z.2.1) hF)] at hP hD
            have hP : va_P D vwCl [(t0, .inr (3, [.int (nI N), .int (nI x), .int (nI (txt T N).2.1), .ref t1, .ref t2, .ref t3])), (t1, .inl (cB, 60, .inl u_7.1)), (t2, .inl (cB, 120, .inl T)), (t3, .inl (cI, 240, .inl u_7.2))] H := hP
            have hD : va_D AM [(t0, .inr (3, [.int (nI N), .int (nI x), .int (nI (txt T N).2.1), .ref t1, .ref t2, .ref t3])), (t1, .inl (cB, 60, .inl u_7.1)), (t2, .inl (cB, 120, .inl T)), (t3, .inl (cI, 240, .inl u_7.2))] := hD
            refine lv_iconst (v := 0) hx hb dX3_isRead_41 (by decide) ?_
            refine e_z (u := (x, u_7.1, u_7.2)) hx hb hr (by first | rfl | exact bI_nar _) hlocks hP hD hS dX3_isRead_42 ?_ ?_
            · rfl
            · exact ⟨by rw [← hF]; rfl, fun h => by rw [← hF] at h; cases h⟩
  have hl9 : lv_has ls 1 [(0, .ref t0)] := lv_sub hl [0] rfl
  exact lp_2 ((N - (skB T N 0)) + 1) 0 (skB T N 0) (N + 1) Lt Nm (by first | assumption | omega | exact skB_N (by omega) | exact (ordR_N (by assumption)).2.1) (by omega) (by omega) (by rfl) (by rfl) (by exact keptO_0) (Nat.lt_succ_self _) H locs hP hD hS ls hl9
