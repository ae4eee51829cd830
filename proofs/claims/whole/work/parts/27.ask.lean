set_option maxHeartbeats 4000000 in
set_option maxRecDepth 100000 in
theorem c_X4_sizeOf (l : Launch) (D : va_G) (cI cB cO : ClassId) (sz : Nat) (v : Int32)  : CI l yX4_sizeOf wsX4_sizeOf ({ frames := 0, cells := 0, slots := 0, locals := 0 } : Room) D (tyL cI cB cO) [.int v] [] sz (fun (r : Int32) (_ : Unit) => r = szI v) (fun (u : Unit) => []) 0 0 := by
  refine ct_of (cc := cX4_sizeOf) (maxL := 1) (ret := some .int) (own := RX4) (Qc := QI D (fun (r : Int32) (_ : Unit) => r = szI v) (fun (u : Unit) => [])) (by decide) rfl rfl (Nat.le_of_ble_eq_true rfl) ?_
  intro pM eM sM mM below meth cM AM ls H locs hx hb hr hts hown hlocks hml hin hK hP hD hS hA hSt hl
  have hl : lv_has ls 1 [(0, .int v)] := hl
  refine lv_iload_n hx hb dX4_sizeOf_0 rfl (lv_at hl 0 rfl) ?_
  refine lv_sipush (v := 2048) hx hb dX4_sizeOf_1 (by decide) ?_
  refine lv_idiv hx hb dX4_sizeOf_4 (by decide) ?_
  refine e_i (u := ()) hx hb hr hlocks hP hD hS dX4_sizeOf_5 ?_ ?_
  · rfl
  · rfl
set_option maxHeartbeats 4000000 in
set_option maxRecDepth 100000 in
theorem c_X4_bitsOf (l : Launch) (D : va_G) (cI cB cO : ClassId) (sz : Nat) (v : Int32)  : CI l yX4_bitsOf wsX4_bitsOf ({ frames := 0, cells := 0, slots := 0, locals := 0 } : Room) D (tyL cI cB cO) [.int v] [] sz (fun (r : Int32) (_ : Unit) => r = btI v) (fun (u : Unit) => []) 0 0 := by
  refine ct_of (cc := cX4_bitsOf) (maxL := 1) (ret := some .int) (own := RX4) (Qc := QI D (fun (r : Int32) (_ : Unit) => r = btI v) (fun (u : Unit) => [])) (by decide) rfl rfl (Nat.le_of_ble_eq_true rfl) ?_
  intro pM eM sM mM below meth cM AM ls H locs hx hb hr hts hown hlocks hml hin hK hP hD hS hA hSt hl
  have hl : lv_has ls 1 [(0, .int v)] := hl
  refine lv_iload_n hx hb dX4_bitsOf_0 rfl (lv_at hl 0 rfl) ?_
  refine lv_sipush (v := 2048) hx hb dX4_bitsOf_1 (by decide) ?_
  refine lv_irem hx hb dX4_bitsOf_4 (by decide) ?_
  refine e_i (u := ()) hx hb hr hlocks hP hD hS dX4_bitsOf_5 ?_ ?_
  · rfl
  · rfl
theorem in_X4_of_4 : ∀ w ∈ wsX40, w ∈ wsX4_of := fun _ h => List.mem_cons_of_mem _ (List.mem_append_left _ (List.mem_append_right _ h))
set_option maxHeartbeats 4000000 in
set_option maxRecDepth 100000 in
theorem c_X4_of (l : Launch) (D : va_G) (cI cB cO : ClassId) (sz : Nat) (x0 h0 k0 sA t0 w0 s0 nx sl : Nat) (rb rn rf : Int32) (h1 h2 n : Nat) (P : Int32) (F : Nat → Int32) (i w : Int32) (hn : n ≤ 10) : CI l yX4_of wsX4_of ({ frames := 2, cells := 0, slots := 0, locals := 43 } : Room) D (tyL cI cB cO) [.ref x0, .int i, .int w] [(x0, .inr (4, [.ref h0, .ref k0, .ref sA, .int (nI nx), .int (nI sl), .int rb, .int rn, .int rf, .ref t0, .ref w0, .ref s0])), (h0, .inr (0, [.int (nI n), .int P, .ref h1, .ref h2])), (h1, .inl (cI, 50, .inl F))] sz (fun (r : Int32) (_ : Unit) => r = rB (okOf n i w) (F (pl i * 5 + pl w))) (fun (u : Unit) => [(x0, .inr (4, [.ref h0, .ref k0, .ref sA, .int (nI nx), .int (nI sl), .int (bR (okOf n i w) rb), .int rn, .int rf, .ref t0, .ref w0, .ref s0])), (h0, .inr (0, [.int (nI n), .int P, .ref h1, .ref h2])), (h1, .inl (cI, 50, .inl F))]) 0 0 := by
  refine ct_of (cc := cX4_of) (maxL := 3) (ret := some .int) (own := RX4) (Qc := QI D (fun (r : Int32) (_ : Unit) => r = rB (okOf n i w) (F (pl i * 5 + pl w))) (fun (u : Unit) => [(x0, .inr (4, [.ref h0, .ref k0, .ref sA, .int (nI nx), .int (nI sl), .int (bR (okOf n i w) rb), .int rn, .int rf, .ref t0, .ref w0, .ref s0])), (h0, .inr (0, [.int (nI n), .int P, .ref h1, .ref h2])), (h1, .inl (cI, 50, .inl F))])) (by decide) rfl rfl (Nat.le_of_ble_eq_true rfl) ?_
  intro pM eM sM mM below meth cM AM ls H locs hx hb hr hts hown hlocks hml hin hK hP hD hS hA hSt hl
  have hl : lv_has ls 3 [(0, .ref x0), (1, .int i), (2, .int w)] := hl
  refine lv_aload_n hx hb dX4_of_0 rfl (lv_at hl 0 rfl) ?_
  refine va_get (D := D) (ci := 4) (v := .ref h0) (C := RX4) (T := TX4) (N := 11) hx hb hts in_X4_of_4 hown hK hP 0 rfl rfl 0 (by decide) (hts (.fieldLink RX4 12 "HoseSpans" "line" "LHoseSpans$Line;") (List.mem_of_getElem? (i := 1) (by decide +kernel))) (fun _ h9 => h9) rfl dX4_of_1 ?_
  refine lv_iload_n hx hb dX4_of_4 rfl (lv_at hl 1 rfl) ?_
  refine k_i (va_runV (As := [.int i]) (rest := []) ⟨hx, hb, hml, hown, hts⟩ (c_X0_hasSpan l D cI cB cO H.size h0 h1 h2 n P i ) (cwV 1 hts gX4_of_X0_hasSpan rfl rfl rfl (by decide +kernel) ⟨Nat.le_of_ble_eq_true rfl, Nat.le_of_ble_eq_true rfl⟩) (preV_of hK hP hD hS hA hSt [1] (by decide) rfl 1 (ci := 0) rfl rfl) rfl rfl hl.1 rfl (lv_room (Nat.le_of_ble_eq_true rfl)) dX4_of_5 ⟨Nat.le_of_ble_eq_true rfl, Nat.le_of_ble_eq_true rfl⟩) hP hD hS hA [1] [0, 2] [0, 2, 1] [(x0, .inr (4, [.ref h0, .ref k0, .ref sA, .int (nI nx), .int (nI sl), .int rb, .int rn, .int rf, .ref t0, .ref w0, .ref s0])), (h1, .inl (cI, 50, .inl F))] (fun (u_1 : Unit) => [(x0, .inr (4, [.ref h0, .ref k0, .ref sA, .int (nI nx), .int (nI sl), .int rb, .int rn, .int rf, .ref t0, .ref w0, .ref s0])), (h0, .inr (0, [.int (nI n), .int P, .ref h1, .ref h2])), (h1, .inl (cI, 50, .inl F))]) rfl rfl (by decide) (by decide) (by decide) (fun _ => rfl) (fun r_1 u_1 H locs q_1 hP hD hS => ?_)
  obtain rfl : r_1 = bI (inR i 0 (nI n - 1)) := q_1
  refine lv_if_eq (tgt := 20) hx hb dX4_of_8 (by decide) (fun c_2 => ?_) (fun c_2 => ?_)
  · have c_2 := bI_0.mp c_2
    refine lv_aload_n hx hb dX4_of_20 rfl (lv_at hl 0 rfl) ?_
    refine lv_ldc (v := -1000002) hx hb hown (hts (.constant RX4 118 (-1000002)) (List.mem_of_getElem? (i := 2) (by decide +kernel))) dX4_of_21 ?_
    refine k_i (va_runV (As := [.int (-1000002)]) (rest := []) ⟨hx, hb, hml, hown, hts⟩ (c_X4_counted l D cI cB cO H.size x0 h0 k0 sA t0 w0 s0 nx sl rb rn rf (-1000002) ) (cwV 1 hts gX4_of_X4_counted rfl rfl rfl (by decide +kernel) ⟨Nat.le_of_ble_eq_true rfl, Nat.le_of_ble_eq_true rfl⟩) (preV_of hK hP hD hS hA hSt [0] (by decide) rfl 0 (ci := 4) rfl rfl) rfl rfl hl.1 rfl (lv_room (Nat.le_of_ble_eq_true rfl)) dX4_of_23 ⟨Nat.le_of_ble_eq_true rfl, Nat.le_of_ble_eq_true rfl⟩) hP hD hS hA [0] [1, 2] [2, 0, 1] [(h0, .inr (0, [.int (nI n), .int P, .ref h1, .ref h2])), (h1, .inl (cI, 50, .inl F))] (fun (u_3 : Unit) => [(x0, .inr (4, [.ref h0, .ref k0, .ref sA, .int (nI nx), .int (nI sl), .int (uB (-1000002) rb), .int (uN (-1000002) rn), .int (uF (-1000002) rf), .ref t0, .ref w0, .ref s0])), (h0, .inr (0, [.int (nI n), .int P, .ref h1, .ref h2])), (h1, .inl (cI, 50, .inl F))]) rfl rfl (by decide) (by decide) (by decide) (fun _ => rfl) (fun r_3 u_3 H locs q_3 hP hD hS => ?_)
    obtain rfl : r_3 = -1000002 := q_3
    rw [show (.int (uB (-1000002) rb) : Value) = .int (bR (okOf n i w) rb) from congrArg Value.int ((uB_B rb).trans (bR_f (by first | assumption | exact and_f1 (by assumption) | exact and_f2 (by assumption))))] at hP hD
    have hP : va_P D vwCl [(x0, .inr (4, [.ref h0, .ref k0, .ref sA, .int (nI nx), .int (nI sl), .int (bR (okOf n i w) rb), .int (uN (-1000002) rn), .int (uF (-1000002) rf), .ref t0, .ref w0, .ref s0])), (h0, .inr (0, [.int (nI n), .int P, .ref h1, .ref h2])), (h1, .inl (cI, 50, .inl F))] H := hP
    have hD : va_D AM [(x0, .inr (4, [.ref h0, .ref k0, .ref sA, .int (nI nx), .int (nI sl), .int (bR (okOf n i w) rb), .int (uN (-1000002) rn), .int (uF (-1000002) rf), .ref t0, .ref w0, .ref s0])), (h0, .inr (0, [.int (nI n), .int P, .ref h1, .ref h2])), (h1, .inl (cI, 50, .inl F))] := hD
    rw [show (.int (uN (-1000002) rn) : Value) = .int rn from congrArg Value.int (uN_B rn)] at hP hD
    have hP : va_P D vwCl [(x0, .inr (4, [.ref h0, .ref k0, .ref sA, .int (nI nx), .int (nI sl), .int (bR (okOf n i w) rb), .int rn, .int (uF (-1000002) rf), .ref t0, .ref w0, .ref s0])), (h0, .inr (0, [.int (nI n), .int P, .ref h1, .ref h2])), (h1, .inl (cI, 50, .inl F))] H := hP
    have hD : va_D AM [(x0, .inr (4, [.ref h0, .ref k0, .ref sA, .int (nI nx), .int (nI sl), .int (bR (okOf n i w) rb), .int rn, .int (uF (-1000002) rf), .ref t0, .ref w0, .ref s0])), (h0, .inr (0, [.int (nI n), .int P, .ref h1, .ref h2])), (h1, .inl (cI, 50, .inl F))] := hD
    rw [show (.int (uF (-1000002) rf) : Value) = .int rf from congrArg Value.int (uF_B rf)] at hP hD
    have hP : va_P D vwCl [(x0, .inr (4, [.ref h0, .ref k0, .ref sA, .int (nI nx), .int (nI sl), .int (bR (okOf n i w) rb), .int rn, .int rf, .ref t0, .ref w0, .ref s0])), (h0, .inr (0, [.int (nI n), .int P, .ref h1, .ref h2])), (h1, .inl (cI, 50, .inl F))] H := hP
    have hD : va_D AM [(x0, .inr (4, [.ref h0, .ref k0, .ref sA, .int (nI nx), .int (nI sl), .int (bR (okOf n i w) rb), .int rn, .int rf, .ref t0, .ref w0, .ref s0])), (h0, .inr (0, [.int (nI n), .int P, .ref h1, .ref h2])), (h1, .inl (cI, 50, .inl F))] := hD
    refine e_i (u := ()) hx hb hr hlocks hP hD hS dX4_of_26 ?_ ?_
    · rfl
    · exact rB_f (by first | assumption | exact and_f1 (by assumption) | exact and_f2 (by assumption))
  · have c_2 := bI_n0.mp c_2
    obtain ⟨j, hj, rfl⟩ := span_in hn c_2
    refine lv_iload_n hx hb dX4_of_11 rfl (lv_at hl 2 rfl) ?_
    refine lv_iconst (v := 0) hx hb dX4_of_12 (by decide) ?_
    refine lv_iconst (v := 4) hx hb dX4_of_13 (by decide) ?_
    refine k_i (va_runS (As := [.int w, .int 0, .int 4]) (rest := []) ⟨hx, hb, hml, hown, hts⟩ (c_X4_within l D cI cB cO H.size w 0 4 ) (va_cwS 3 hts gX4_of_X4_within rfl rfl rfl (by decide +kernel) ⟨Nat.le_of_ble_eq_true rfl, Nat.le_of_ble_eq_true rfl⟩) (preS_of hK hP hD hS hA hSt [] (by decide) rfl) rfl rfl hl.1 rfl (lv_room (Nat.le_of_ble_eq_true rfl)) dX4_of_14 ⟨Nat.le_of_ble_eq_true rfl, Nat.le_of_ble_eq_true rfl⟩) hP hD hS hA [] [0, 1, 2] [0, 1, 2] [(x0, .inr (4, [.ref h0, .ref k0, .ref sA, .int (nI nx), .int (nI sl), .int rb, .int rn, .int rf, .ref t0, .ref w0, .ref s0])), (h0, .inr (0, [.int (nI n), .int P, .ref h1, .ref h2])), (h1, .inl (cI, 50, .inl F))] (fun (u_4 : Unit) => [(x0, .inr (4, [.ref h0, .ref k0, .ref sA, .int (nI nx), .int (nI sl), .int rb, .int rn, .int rf, .ref t0, .ref w0, .ref s0])), (h0, .inr (0, [.int (nI n), .int P, .ref h1, .ref h2])), (h1, .inl (cI, 50, .inl F))]) rfl rfl (by decide) (by decide) (by decide) (fun _ => rfl) (fun r_4 u_4 H locs q_4 hP hD hS => ?_)
    obtain rfl : r_4 = bI (inR w 0 4) := q_4
    refine lv_if_ne (tgt := 27) hx hb dX4_of_17 (by decide) (fun c_5 => ?_) (fun c_5 => ?_)
    · have c_5 := bI_n0.mp c_5
      obtain ⟨k, hk, rfl⟩ := inR_nI (n := 4) (by decide) c_5
      refine lv_aload_n hx hb dX4_of_27 rfl (lv_at hl 0 rfl) ?_
      refine va_get (D := D) (ci := 4) (v := .ref h0) (C := RX4) (T := TX4) (N := 11) hx hb hts in_X4_of_4 hown hK hP 0 rfl rfl 0 (by decide) (hts (.fieldLink RX4 12 "HoseSpans" "line" "LHoseSpans$Line;") (List.mem_of_getElem? (i := 1) (by decide +kernel))) (fun _ h9 => h9) rfl dX4_of_28 ?_
      refine lv_iload_n hx hb dX4_of_31 rfl (lv_at hl 1 rfl) ?_
      refine lv_iload_n hx hb dX4_of_32 rfl (lv_at hl 2 rfl) ?_
      refine k_i (va_runV (As := [.int (nI j), .int (nI k)]) (rest := []) ⟨hx, hb, hml, hown, hts⟩ (c_X0_fact l D cI cB cO H.size h0 h1 h2 n P F j k (by first | assumption | omega)) (cwV 2 hts gX4_of_X0_fact rfl rfl rfl (by decide +kernel) ⟨Nat.le_of_ble_eq_true rfl, Nat.le_of_ble_eq_true rfl⟩) (preV_of hK hP hD hS hA hSt [1, 2] (by decide) rfl 1 (ci := 0) rfl rfl) rfl rfl hl.1 rfl (lv_room (Nat.le_of_ble_eq_true rfl)) dX4_of_33 ⟨Nat.le_of_ble_eq_true rfl, Nat.le_of_ble_eq_true rfl⟩) hP hD hS hA [1, 2] [0] [0, 1, 2] [(x0, .inr (4, [.ref h0, .ref k0, .ref sA, .int (nI nx), .int (nI sl), .int rb, .int rn, .int rf, .ref t0, .ref w0, .ref s0]))] (fun (u_6 : Unit) => [(x0, .inr (4, [.ref h0, .ref k0, .ref sA, .int (nI nx), .int (nI sl), .int rb, .int rn, .int rf, .ref t0, .ref w0, .ref s0])), (h0, .inr (0, [.int (nI n), .int P, .ref h1, .ref h2])), (h1, .inl (cI, 50, .inl F))]) rfl rfl (by decide) (by decide) (by decide) (fun _ => rfl) (fun r_6 u_6 H locs q_6 hP hD hS => ?_)
      obtain rfl : r_6 = F (j * 5 + k) := q_6
      rw [show (.int rb : Value) = .int (bR (okOf n (nI j) (nI k)) rb) from congrArg Value.int (bR_t (by first | assumption | exact and_t2 (by assumption) (by assumption)))] at hP hD
      have hP : va_P D vwCl [(x0, .inr (4, [.ref h0, .ref k0, .ref sA, .int (nI nx), .int (nI sl), .int (bR (okOf n (nI j) (nI k)) rb), .int rn, .int rf, .ref t0, .ref w0, .ref s0])), (h0, .inr (0, [.int (nI n), .int P, .ref h1, .ref h2])), (h1, .inl (cI, 50, .inl F))] H := hP
      have hD : va_D AM [(x0, .inr (4, [.ref h0, .ref k0, .ref sA, .int (nI nx), .int (nI sl), .int (bR (okOf n (nI j) (nI k)) rb), .int rn, .int rf, .ref t0, .ref w0, .ref s0])), (h0, .inr (0, [.int (nI n), .int P, .ref h1, .ref h2])), (h1, .inl (cI, 50, .inl F))] := hD
      refine e_i (u := ()) hx hb hr hlocks hP hD hS dX4_of_36 ?_ ?_
      · rfl
      · exact rB_t2 (by first | assumption | exact and_t2 (by assumption) (by assumption)) (by rw [pl_nI (show j < 2147483648 by omega), pl_nI (show k < 2147483648 by omega)])
    · have c_5 := bI_0.mp c_5
      refine lv_aload_n hx hb dX4_of_20 rfl (lv_at hl 0 rfl) ?_
      refine lv_ldc (v := -1000002) hx hb hown (hts (.constant RX4 118 (-1000002)) (List.mem_of_getElem? (i := 2) (by decide +kernel))) dX4_of_21 ?_
      refine k_i (va_runV (As := [.int (-1000002)]) (rest := []) ⟨hx, hb, hml, hown, hts⟩ (c_X4_counted l D cI cB cO H.size x0 h0 k0 sA t0 w0 s0 nx sl rb rn rf (-1000002) ) (cwV 1 hts gX4_of_X4_counted rfl rfl rfl (by decide +kernel) ⟨Nat.le_of_ble_eq_true rfl, Nat.le_of_ble_eq_true rfl⟩) (preV_of hK hP hD hS hA hSt [0] (by decide) rfl 0 (ci := 4) rfl rfl) rfl rfl hl.1 rfl (lv_room (Nat.le_of_ble_eq_true rfl)) dX4_of_23 ⟨Nat.le_of_ble_eq_true rfl, Nat.le_of_ble_eq_true rfl⟩) hP hD hS hA [0] [1, 2] [2, 0, 1] [(h0, .inr (0, [.int (nI n), .int P, .ref h1, .ref h2])), (h1, .inl (cI, 50, .inl F))] (fun (u_7 : Unit) => [(x0, .inr (4, [.ref h0, .ref k0, .ref sA, .int (nI nx), .int (nI sl), .int (uB (-1000002) rb), .int (uN (-1000002) rn), .int (uF (-1000002) rf), .ref t0, .ref w0, .ref s0])), (h0, .inr (0, [.int (nI n), .int P, .ref h1, .ref h2])), (h1, .inl (cI, 50, .inl F))]) rfl rfl (by decide) (by decide) (by decide) (fun _ => rfl) (fun r_7 u_7 H locs q_7 hP hD hS => ?_)
      obtain rfl : r_7 = -1000002 := q_7
      rw [show (.int (uB (-1000002) rb) : Value) = .int (bR (okOf n (nI j) w) rb) from congrArg Value.int ((uB_B rb).trans (bR_f (by first | assumption | exact and_f1 (by assumption) | exact and_f2 (by assumption))))] at hP hD
      have hP : va_P D vwCl [(x0, .inr (4, [.ref h0, .ref k0, .ref sA, .int (nI nx), .int (nI sl), .int (bR (okOf n (nI j) w) rb), .int (uN (-1000002) rn), .int (uF (-1000002) rf), .ref t0, .ref w0, .ref s0])), (h0, .inr (0, [.int (nI n), .int P, .ref h1, .ref h2])), (h1, .inl (cI, 50, .inl F))] H := hP
      have hD : va_D AM [(x0, .inr (4, [.ref h0, .ref k0, .ref sA, .int (nI nx), .int (nI sl), .int (bR (okOf n (nI j) w) rb), .int (uN (-1000002) rn), .int (uF (-1000002) rf), .ref t0, .ref w0, .ref s0])), (h0, .inr (0, [.int (nI n), .int P, .ref h1, .ref h2])), (h1, .inl (cI, 50, .inl F))] := hD
      rw [show (.int (uN (-1000002) rn) : Value) = .int rn from congrArg Value.int (uN_B rn)] at hP hD
      have hP : va_P D vwCl [(x0, .inr (4, [.ref h0, .ref k0, .ref sA, .int (nI nx), .int (nI sl), .int (bR (okOf n (nI j) w) rb), .int rn, .int (uF (-1000002) rf), .ref t0, .ref w0, .ref s0])), (h0, .inr (0, [.int (nI n), .int P, .ref h1, .ref h2])), (h1, .inl (cI, 50, .inl F))] H := hP
      have hD : va_D AM [(x0, .inr (4, [.ref h0, .ref k0, .ref sA, .int (nI nx), .int (nI sl), .int (bR (okOf n (nI j) w) rb), .int rn, .int (uF (-1000002) rf), .ref t0, .ref w0, .ref s0])), (h0, .inr (0, [.int (nI n), .int P, .ref h1, .ref h2])), (h1, .inl (cI, 50, .inl F))] := hD
      rw [show (.int (uF (-1000002) rf) : Value) = .int rf from congrArg Value.int (uF_B rf)] at hP hD
      have hP : va_P D vwCl [(x0, .inr (4, [.ref h0, .ref k0, .ref sA, .int (nI nx), .int (nI sl), .int (bR (okOf n (nI j) w) rb), .int rn, .int rf, .ref t0, .ref w0, .ref s0])), (h0, .inr (0, [.int (nI n), .int P, .ref h1, .ref h2])), (h1, .inl (cI, 50, .inl F))] H := hP
      have hD : va_D AM [(x0, .inr (4, [.ref h0, .ref k0, .ref sA, .int (nI nx), .int (nI sl), .int (bR (okOf n (nI j) w) rb), .int rn, .int rf, .ref t0, .ref w0, .ref s0])), (h0, .inr (0, [.int (nI n), .int P, .ref h1, .ref h2])), (h1, .inl (cI, 50, .inl F))] := hD
      refine e_i (u := ()) hx hb hr hlocks hP hD hS dX4_of_26 ?_ ?_
      · rfl
      · exact rB_f (by first | assumption | exact and_f1 (by assumption) | exact and_f2 (by assumption))
theorem in_X4_loss_4 : ∀ w ∈ wsX40, w ∈ wsX4_loss := fun _ h => List.mem_cons_of_mem _ (List.mem_append_left _ (List.mem_append_right _ h))
set_option maxHeartbeats 4000000 in
set_option maxRecDepth 100000 in
theorem c_X4_loss (l : Launch) (D : va_G) (cI cB cO : ClassId) (sz : Nat) (x0 h0 k0 sA t0 w0 s0 nx sl : Nat) (rb rn rf : Int32) (h1 h2 n : Nat) (P : Int32) (F : Nat → Int32) (i q : Int32) (hn : n ≤ 10) (hf : okFacts F) : CI l yX4_loss wsX4_loss ({ frames := 2, cells := 0, slots := 0, locals := 45 } : Room) D (tyL cI cB cO) [.ref x0, .int i, .int q] [(x0, .inr (4, [.ref h0, .ref k0, .ref sA, .int (nI nx), .int (nI sl), .int rb, .int rn, .int rf, .ref t0, .ref w0, .ref s0])), (h0, .inr (0, [.int (nI n), .int P, .ref h1, .ref h2])), (h1, .inl (cI, 50, .inl F))] sz (fun (r : Int32) (_ : Unit) => r = rB (okLoss n i q) (lossF F (pl i) q)) (fun (u : Unit) => [(x0, .inr (4, [.ref h0, .ref k0, .ref sA, .int (nI nx), .int (nI sl), .int (bR (okLoss n i q) rb), .int rn, .int rf, .ref t0, .ref w0, .ref s0])), (h0, .inr (0, [.int (nI n), .int P, .ref h1, .ref h2])), (h1, .inl (cI, 50, .inl F))]) 0 0 := by
  refine ct_of (cc := cX4_loss) (maxL := 3) (ret := some .int) (own := RX4) (Qc := QI D (fun (r : Int32) (_ : Unit) => r = rB (okLoss n i q) (lossF F (pl i) q)) (fun (u : Unit) => [(x0, .inr (4, [.ref h0, .ref k0, .ref sA, .int (nI nx), .int (nI sl), .int (bR (okLoss n i q) rb), .int rn, .int rf, .ref t0, .ref w0, .ref s0])), (h0, .inr (0, [.int (nI n), .int P, .ref h1, .ref h2])), (h1, .inl (cI, 50, .inl F))])) (by decide) rfl rfl (Nat.le_of_ble_eq_true rfl) ?_
  intro pM eM sM mM below meth cM AM ls H locs hx hb hr hts hown hlocks hml hin hK hP hD hS hA hSt hl
  have hl : lv_has ls 3 [(0, .ref x0), (1, .int i), (2, .int q)] := hl
  refine lv_aload_n hx hb dX4_loss_0 rfl (lv_at hl 0 rfl) ?_
  refine va_get (D := D) (ci := 4) (v := .ref h0) (C := RX4) (T := TX4) (N := 11) hx hb hts in_X4_loss_4 hown hK hP 0 rfl rfl 0 (by decide) (hts (.fieldLink RX4 12 "HoseSpans" "line" "LHoseSpans$Line;") (List.mem_of_getElem? (i := 1) (by decide +kernel))) (fun _ h9 => h9) rfl dX4_loss_1 ?_
  refine lv_iload_n hx hb dX4_loss_4 rfl (lv_at hl 1 rfl) ?_
  refine k_i (va_runV (As := [.int i]) (rest := []) ⟨hx, hb, hml, hown, hts⟩ (c_X0_hasSpan l D cI cB cO H.size h0 h1 h2 n P i ) (cwV 1 hts gX4_loss_X0_hasSpan rfl rfl rfl (by decide +kernel) ⟨Nat.le_of_ble_eq_true rfl, Nat.le_of_ble_eq_true rfl⟩) (preV_of hK hP hD hS hA hSt [1] (by decide) rfl 1 (ci := 0) rfl rfl) rfl rfl hl.1 rfl (lv_room (Nat.le_of_ble_eq_true rfl)) dX4_loss_5 ⟨Nat.le_of_ble_eq_true rfl, Nat.le_of_ble_eq_true rfl⟩) hP hD hS hA [1] [0, 2] [0, 2, 1] [(x0, .inr (4, [.ref h0, .ref k0, .ref sA, .int (nI nx), .int (nI sl), .int rb, .int rn, .int rf, .ref t0, .ref w0, .ref s0])), (h1, .inl (cI, 50, .inl F))] (fun (u_1 : Unit) => [(x0, .inr (4, [.ref h0, .ref k0, .ref sA, .int (nI nx), .int (nI sl), .int rb, .int rn, .int rf, .ref t0, .ref w0, .ref s0])), (h0, .inr (0, [.int (nI n), .int P, .ref h1, .ref h2])), (h1, .inl (cI, 50, .inl F))]) rfl rfl (by decide) (by decide) (by decide) (fun _ => rfl) (fun r_1 u_1 H locs q_1 hP hD hS => ?_)
  obtain rfl : r_1 = bI (inR i 0 (nI n - 1)) := q_1
  refine lv_if_eq (tgt := 21) hx hb dX4_loss_8 (by decide) (fun c_2 => ?_) (fun c_2 => ?_)
  · have c_2 := bI_0.mp c_2
    refine lv_aload_n hx hb dX4_loss_21 rfl (lv_at hl 0 rfl) ?_
    refine lv_ldc (v := -1000002) hx hb hown (hts (.constant RX4 118 (-1000002)) (List.mem_of_getElem? (i := 2) (by decide +kernel))) dX4_loss_22 ?_
    refine k_i (va_runV (As := [.int (-1000002)]) (rest := []) ⟨hx, hb, hml, hown, hts⟩ (c_X4_counted l D cI cB cO H.size x0 h0 k0 sA t0 w0 s0 nx sl rb rn rf (-1000002) ) (cwV 1 hts gX4_loss_X4_counted rfl rfl rfl (by decide +kernel) ⟨Nat.le_of_ble_eq_true rfl, Nat.le_of_ble_eq_true rfl⟩) (preV_of hK hP hD hS hA hSt [0] (by decide) rfl 0 (ci := 4) rfl rfl) rfl rfl hl.1 rfl (lv_room (Nat.le_of_ble_eq_true rfl)) dX4_loss_24 ⟨Nat.le_of_ble_eq_true rfl, Nat.le_of_ble_eq_true rfl⟩) hP hD hS hA [0] [1, 2] [2, 0, 1] [(h0, .inr (0, [.int (nI n), .int P, .ref h1, .ref h2])), (h1, .inl (cI, 50, .inl F))] (fun (u_3 : Unit) => [(x0, .inr (4, [.ref h0, .ref k0, .ref sA, .int (nI nx), .int (nI sl), .int (uB (-1000002) rb), .int (uN (-1000002) rn), .int (uF (-1000002) rf), .ref t0, .ref w0, .ref s0])), (h0, .inr (0, [.int (nI n), .int P, .ref h1, .ref h2])), (h1, .inl (cI, 50, .inl F))]) rfl rfl (by decide) (by decide) (by decide) (fun _ => rfl) (fun r_3 u_3 H locs q_3 hP hD hS => ?_)
    obtain rfl : r_3 = -1000002 := q_3
    rw [show (.int (uB (-1000002) rb) : Value) = .int (bR (okLoss n i q) rb) from congrArg Value.int ((uB_B rb).trans (bR_f (by first | assumption | exact and_f1 (by assumption) | exact and_f2 (by assumption))))] at hP hD
    have hP : va_P D vwCl [(x0, .inr (4, [.ref h0, .ref k0, .ref sA, .int (nI nx), .int (nI sl), .int (bR (okLoss n i q) rb), .int (uN (-1000002) rn), .int (uF (-1000002) rf), .ref t0, .ref w0, .ref s0])), (h0, .inr (0, [.int (nI n), .int P, .ref h1, .ref h2])), (h1, .inl (cI, 50, .inl F))] H := hP
    have hD : va_D AM [(x0, .inr (4, [.ref h0, .ref k0, .ref sA, .int (nI nx), .int (nI sl), .int (bR (okLoss n i q) rb), .int (uN (-1000002) rn), .int (uF (-1000002) rf), .ref t0, .ref w0, .ref s0])), (h0, .inr (0, [.int (nI n), .int P, .ref h1, .ref h2])), (h1, .inl (cI, 50, .inl F))] := hD
    rw [show (.int (uN (-1000002) rn) : Value) = .int rn from congrArg Value.int (uN_B rn)] at hP hD
    have hP : va_P D vwCl [(x0, .inr (4, [.ref h0, .ref k0, .ref sA, .int (nI nx), .int (nI sl), .int (bR (okLoss n i q) rb), .int rn, .int (uF (-1000002) rf), .ref t0, .ref w0, .ref s0])), (h0, .inr (0, [.int (nI n), .int P, .ref h1, .ref h2])), (h1, .inl (cI, 50, .inl F))] H := hP
    have hD : va_D AM [(x0, .inr (4, [.ref h0, .ref k0, .ref sA, .int (nI nx), .int (nI sl), .int (bR (okLoss n i q) rb), .int rn, .int (uF (-1000002) rf), .ref t0, .ref w0, .ref s0])), (h0, .inr (0, [.int (nI n), .int P, .ref h1, .ref h2])), (h1, .inl (cI, 50, .inl F))] := hD
    rw [show (.int (uF (-1000002) rf) : Value) = .int rf from congrArg Value.int (uF_B rf)] at hP hD
    have hP : va_P D vwCl [(x0, .inr (4, [.ref h0, .ref k0, .ref sA, .int (nI nx), .int (nI sl), .int (bR (okLoss n i q) rb), .int rn, .int rf, .ref t0, .ref w0, .ref s0])), (h0, .inr (0, [.int (nI n), .int P, .ref h1, .ref h2])), (h1, .inl (cI, 50, .inl F))] H := hP
    have hD : va_D AM [(x0, .inr (4, [.ref h0, .ref k0, .ref sA, .int (nI nx), .int (nI sl), .int (bR (okLoss n i q) rb), .int rn, .int rf, .ref t0, .ref w0, .ref s0])), (h0, .inr (0, [.int (nI n), .int P, .ref h1, .ref h2])), (h1, .inl (cI, 50, .inl F))] := hD
    refine e_i (u := ()) hx hb hr hlocks hP hD hS dX4_loss_27 ?_ ?_
    · rfl
    · exact rB_f (by first | assumption | exact and_f1 (by assumption) | exact and_f2 (by assumption))
  · have c_2 := bI_n0.mp c_2
    obtain ⟨j, hj, rfl⟩ := span_in hn c_2
    refine lv_iload_n hx hb dX4_loss_11 rfl (lv_at hl 2 rfl) ?_
    refine lv_iconst (v := 1) hx hb dX4_loss_12 (by decide) ?_
    refine lv_bipush (v := 30) hx hb dX4_loss_13 (by decide) ?_
    refine k_i (va_runS (As := [.int q, .int 1, .int 30]) (rest := []) ⟨hx, hb, hml, hown, hts⟩ (c_X4_within l D cI cB cO H.size q 1 30 ) (va_cwS 3 hts gX4_loss_X4_within rfl rfl rfl (by decide +kernel) ⟨Nat.le_of_ble_eq_true rfl, Nat.le_of_ble_eq_true rfl⟩) (preS_of hK hP hD hS hA hSt [] (by decide) rfl) rfl rfl hl.1 rfl (lv_room (Nat.le_of_ble_eq_true rfl)) dX4_loss_15 ⟨Nat.le_of_ble_eq_true rfl, Nat.le_of_ble_eq_true rfl⟩) hP hD hS hA [] [0, 1, 2] [0, 1, 2] [(x0, .inr (4, [.ref h0, .ref k0, .ref sA, .int (nI nx), .int (nI sl), .int rb, .int rn, .int rf, .ref t0, .ref w0, .ref s0])), (h0, .inr (0, [.int (nI n), .int P, .ref h1, .ref h2])), (h1, .inl (cI, 50, .inl F))] (fun (u_4 : Unit) => [(x0, .inr (4, [.ref h0, .ref k0, .ref sA, .int (nI nx), .int (nI sl), .int rb, .int rn, .int rf, .ref t0, .ref w0, .ref s0])), (h0, .inr (0, [.int (nI n), .int P, .ref h1, .ref h2])), (h1, .inl (cI, 50, .inl F))]) rfl rfl (by decide) (by decide) (by decide) (fun _ => rfl) (fun r_4 u_4 H locs q_4 hP hD hS => ?_)
    obtain rfl : r_4 = bI (inR q 1 30) := q_4
    refine lv_if_ne (tgt := 28) hx hb dX4_loss_18 (by decide) (fun c_5 => ?_) (fun c_5 => ?_)
    · have c_5 := bI_n0.mp c_5
      refine lv_aload_n hx hb dX4_loss_28 rfl (lv_at hl 0 rfl) ?_
      refine va_get (D := D) (ci := 4) (v := .ref h0) (C := RX4) (T := TX4) (N := 11) hx hb hts in_X4_loss_4 hown hK hP 0 rfl rfl 0 (by decide) (hts (.fieldLink RX4 12 "HoseSpans" "line" "LHoseSpans$Line;") (List.mem_of_getElem? (i := 1) (by decide +kernel))) (fun _ h9 => h9) rfl dX4_loss_29 ?_
      refine lv_iload_n hx hb dX4_loss_32 rfl (lv_at hl 1 rfl) ?_
      refine lv_iload_n hx hb dX4_loss_33 rfl (lv_at hl 2 rfl) ?_
      refine k_i (va_runV (As := [.int (nI j), .int q]) (rest := []) ⟨hx, hb, hml, hown, hts⟩ (c_X0_lossBy l D cI cB cO H.size h0 h1 h2 n P F j q (by first | assumption | omega | exact okFacts.sort (by assumption) (by omega)) (by first | assumption | omega | exact okFacts.sort (by assumption) (by omega))) (cwV 2 hts gX4_loss_X0_lossBy rfl rfl rfl (by decide +kernel) ⟨Nat.le_of_ble_eq_true rfl, Nat.le_of_ble_eq_true rfl⟩) (preV_of hK hP hD hS hA hSt [1, 2] (by decide) rfl 1 (ci := 0) rfl rfl) rfl rfl hl.1 rfl (lv_room (Nat.le_of_ble_eq_true rfl)) dX4_loss_34 ⟨Nat.le_of_ble_eq_true rfl, Nat.le_of_ble_eq_true rfl⟩) hP hD hS hA [1, 2] [0] [0, 1, 2] [(x0, .inr (4, [.ref h0, .ref k0, .ref sA, .int (nI nx), .int (nI sl), .int rb, .int rn, .int rf, .ref t0, .ref w0, .ref s0]))] (fun (u_6 : Unit) => [(x0, .inr (4, [.ref h0, .ref k0, .ref sA, .int (nI nx), .int (nI sl), .int rb, .int rn, .int rf, .ref t0, .ref w0, .ref s0])), (h0, .inr (0, [.int (nI n), .int P, .ref h1, .ref h2])), (h1, .inl (cI, 50, .inl F))]) rfl rfl (by decide) (by decide) (by decide) (fun _ => rfl) (fun r_6 u_6 H locs q_6 hP hD hS => ?_)
      obtain rfl : r_6 = lossF F j q := q_6
      rw [show (.int rb : Value) = .int (bR (okLoss n (nI j) q) rb) from congrArg Value.int (bR_t (by first | assumption | exact and_t2 (by assumption) (by assumption)))] at hP hD
      have hP : va_P D vwCl [(x0, .inr (4, [.ref h0, .ref k0, .ref sA, .int (nI nx), .int (nI sl), .int (bR (okLoss n (nI j) q) rb), .int rn, .int rf, .ref t0, .ref w0, .ref s0])), (h0, .inr (0, [.int (nI n), .int P, .ref h1, .ref h2])), (h1, .inl (cI, 50, .inl F))] H := hP
      have hD : va_D AM [(x0, .inr (4, [.ref h0, .ref k0, .ref sA, .int (nI nx), .int (nI sl), .int (bR (okLoss n (nI j) q) rb), .int rn, .int rf, .ref t0, .ref w0, .ref s0])), (h0, .inr (0, [.int (nI n), .int P, .ref h1, .ref h2])), (h1, .inl (cI, 50, .inl F))] := hD
      refine e_i (u := ()) hx hb hr hlocks hP hD hS dX4_loss_37 ?_ ?_
      · rfl
      · exact rB_t2 (by first | assumption | exact and_t2 (by assumption) (by assumption)) (by rw [pl_nI (show j < 2147483648 by omega)])
    · have c_5 := bI_0.mp c_5
      refine lv_aload_n hx hb dX4_loss_21 rfl (lv_at hl 0 rfl) ?_
      refine lv_ldc (v := -1000002) hx hb hown (hts (.constant RX4 118 (-1000002)) (List.mem_of_getElem? (i := 2) (by decide +kernel))) dX4_loss_22 ?_
      refine k_i (va_runV (As := [.int (-1000002)]) (rest := []) ⟨hx, hb, hml, hown, hts⟩ (c_X4_counted l D cI cB cO H.size x0 h0 k0 sA t0 w0 s0 nx sl rb rn rf (-1000002) ) (cwV 1 hts gX4_loss_X4_counted rfl rfl rfl (by decide +kernel) ⟨Nat.le_of_ble_eq_true rfl, Nat.le_of_ble_eq_true rfl⟩) (preV_of hK hP hD hS hA hSt [0] (by decide) rfl 0 (ci := 4) rfl rfl) rfl rfl hl.1 rfl (lv_room (Nat.le_of_ble_eq_true rfl)) dX4_loss_24 ⟨Nat.le_of_ble_eq_true rfl, Nat.le_of_ble_eq_true rfl⟩) hP hD hS hA [0] [1, 2] [2, 0, 1] [(h0, .inr (0, [.int (nI n), .int P, .ref h1, .ref h2])), (h1, .inl (cI, 50, .inl F))] (fun (u_7 : Unit) => [(x0, .inr (4, [.ref h0, .ref k0, .ref sA, .int (nI nx), .int (nI sl), .int (uB (-1000002) rb), .int (uN (-1000002) rn), .int (uF (-1000002) rf), .ref t0, .ref w0, .ref s0])), (h0, .inr (0, [.int (nI n), .int P, .ref h1, .ref h2])), (h1, .inl (cI, 50, .inl F))]) rfl rfl (by decide) (by decide) (by decide) (fun _ => rfl) (fun r_7 u_7 H locs q_7 hP hD hS => ?_)
      obtain rfl : r_7 = -1000002 := q_7
      rw [show (.int (uB (-1000002) rb) : Value) = .int (bR (okLoss n (nI j) q) rb) from congrArg Value.int ((uB_B rb).trans (bR_f (by first | assumption | exact and_f1 (by assumption) | exact and_f2 (by assumption))))] at hP hD
      have hP : va_P D vwCl [(x0, .inr (4, [.ref h0, .ref k0, .ref sA, .int (nI nx), .int (nI sl), .int (bR (okLoss n (nI j) q) rb), .int (uN (-1000002) rn), .int (uF (-1000002) rf), .ref t0, .ref w0, .ref s0])), (h0, .inr (0, [.int (nI n), .int P, .ref h1, .ref h2])), (h1, .inl (cI, 50, .inl F))] H := hP
      have hD : va_D AM [(x0, .inr (4, [.ref h0, .ref k0, .ref sA, .int (nI nx), .int (nI sl), .int (bR (okLoss n (nI j) q) rb), .int (uN (-1000002) rn), .int (uF (-1000002) rf), .ref t0, .ref w0, .ref s0])), (h0, .inr (0, [.int (nI n), .int P, .ref h1, .ref h2])), (h1, .inl (cI, 50, .inl F))] := hD
      rw [show (.int (uN (-1000002) rn) : Value) = .int rn from congrArg Value.int (uN_B rn)] at hP hD
      have hP : va_P D vwCl [(x0, .inr (4, [.ref h0, .ref k0, .ref sA, .int (nI nx), .int (nI sl), .int (bR (okLoss n (nI j) q) rb), .int rn, .int (uF (-1000002) rf), .ref t0, .ref w0, .ref s0])), (h0, .inr (0, [.int (nI n), .int P, .ref h1, .ref h2])), (h1, .inl (cI, 50, .inl F))] H := hP
      have hD : va_D AM [(x0, .inr (4, [.ref h0, .ref k0, .ref sA, .int (nI nx), .int (nI sl), .int (bR (okLoss n (nI j) q) rb), .int rn, .int (uF (-1000002) rf), .ref t0, .ref w0, .ref s0])), (h0, .inr (0, [.int (nI n), .int P, .ref h1, .ref h2])), (h1, .inl (cI, 50, .inl F))] := hD
      rw [show (.int (uF (-1000002) rf) : Value) = .int rf from congrArg Value.int (uF_B rf)] at hP hD
      have hP : va_P D vwCl [(x0, .inr (4, [.ref h0, .ref k0, .ref sA, .int (nI nx), .int (nI sl), .int (bR (okLoss n (nI j) q) rb), .int rn, .int rf, .ref t0, .ref w0, .ref s0])), (h0, .inr (0, [.int (nI n), .int P, .ref h1, .ref h2])), (h1, .inl (cI, 50, .inl F))] H := hP
      have hD : va_D AM [(x0, .inr (4, [.ref h0, .ref k0, .ref sA, .int (nI nx), .int (nI sl), .int (bR (okLoss n (nI j) q) rb), .int rn, .int rf, .ref t0, .ref w0, .ref s0])), (h0, .inr (0, [.int (nI n), .int P, .ref h1, .ref h2])), (h1, .inl (cI, 50, .inl F))] := hD
      refine e_i (u := ()) hx hb hr hlocks hP hD hS dX4_loss_27 ?_ ?_
      · rfl
      · exact rB_f (by first | assumption | exact and_f1 (by assumption) | exact and_f2 (by assumption))
theorem in_X4_node_0 : ∀ w ∈ wsX00, w ∈ wsX4_node := fun _ h => List.mem_cons_of_mem _ (List.mem_append_left _ (List.mem_append_right _ h))
theorem in_X4_node_2 : ∀ w ∈ wsX20, w ∈ wsX4_node := fun _ h => List.mem_cons_of_mem _ (List.mem_append_right _ h)
theorem in_X4_node_4 : ∀ w ∈ wsX40, w ∈ wsX4_node := fun _ h => List.mem_cons_of_mem _ (List.mem_append_left _ (List.mem_append_left _ (List.mem_append_right _ h)))
set_option maxHeartbeats 4000000 in
set_option maxRecDepth 100000 in
theorem c_X4_node (l : Launch) (D : va_G) (cI cB cO : ClassId) (sz : Nat) (x0 h0 k0 sA t0 w0 s0 nx sl : Nat) (rb rn rf : Int32) (h1 h2 n S : Nat) (F G : Nat → Int32) (w1 w2 : Nat) (wh how : Int32) (a b : Nat → Int32) (i w : Int32) (hn : n ≤ 10) (hf : okFacts F) : CI l yX4_node wsX4_node ({ frames := 5, cells := 0, slots := 0, locals := 118 } : Room) D (tyL cI cB cO) [.ref x0, .int i, .int w] [(x0, .inr (4, [.ref h0, .ref k0, .ref sA, .int (nI nx), .int (nI sl), .int rb, .int rn, .int rf, .ref t0, .ref w0, .ref s0])), (h0, .inr (0, [.int (nI n), .int (nI S), .ref h1, .ref h2])), (h1, .inl (cI, 50, .inl F)), (h2, .inl (cI, 6, .inl G)), (w0, .inr (2, [.int wh, .int how, .ref w1, .ref w2])), (w1, .inl (cI, 11, .inl a)), (w2, .inl (cI, 11, .inl b))] sz (fun (r : Int32) (_ : Rs) => r = rB (okNode n i w) (nodeF F G n S i w)) (fun (u : Rs) => [(x0, .inr (4, [.ref h0, .ref k0, .ref sA, .int (nI nx), .int (nI sl), .int (bR (okNode n i w) rb), .int rn, .int rf, .ref t0, .ref w0, .ref s0])), (h0, .inr (0, [.int (nI n), .int (nI S), .ref h1, .ref h2])), (h1, .inl (cI, 50, .inl F)), (h2, .inl (cI, 6, .inl G)), (w0, .inr (2, [.int u.1, .int u.2.1, .ref w1, .ref w2])), (w1, .inl (cI, 11, .inl u.2.2.1)), (w2, .inl (cI, 11, .inl u.2.2.2))]) 0 0 := by
  refine ct_of (cc := cX4_node) (maxL := 3) (ret := some .int) (own := RX4) (Qc := QI D (fun (r : Int32) (_ : Rs) => r = rB (okNode n i w) (nodeF F G n S i w)) (fun (u : Rs) => [(x0, .inr (4, [.ref h0, .ref k0, .ref sA, .int (nI nx), .int (nI sl), .int (bR (okNode n i w) rb), .int rn, .int rf, .ref t0, .ref w0, .ref s0])), (h0, .inr (0, [.int (nI n), .int (nI S), .ref h1, .ref h2])), (h1, .inl (cI, 50, .inl F)), (h2, .inl (cI, 6, .inl G)), (w0, .inr (2, [.int u.1, .int u.2.1, .ref w1, .ref w2])), (w1, .inl (cI, 11, .inl u.2.2.1)), (w2, .inl (cI, 11, .inl u.2.2.2))])) (by decide) rfl rfl (Nat.le_of_ble_eq_true rfl) ?_
  intro pM eM sM mM below meth cM AM ls H locs hx hb hr hts hown hlocks hml hin hK hP hD hS hA hSt hl
  have hl : lv_has ls 3 [(0, .ref x0), (1, .int i), (2, .int w)] := hl
  refine lv_aload_n hx hb dX4_node_0 rfl (lv_at hl 0 rfl) ?_
  refine va_get (D := D) (ci := 4) (v := .ref h0) (C := RX4) (T := TX4) (N := 11) hx hb hts in_X4_node_4 hown hK hP 0 rfl rfl 0 (by decide) (hts (.fieldLink RX4 12 "HoseSpans" "line" "LHoseSpans$Line;") (List.mem_of_getElem? (i := 1) (by decide +kernel))) (fun _ h9 => h9) rfl dX4_node_1 ?_
  refine lv_iload_n hx hb dX4_node_4 rfl (lv_at hl 1 rfl) ?_
  refine k_i (va_runV (As := [.int i]) (rest := []) ⟨hx, hb, hml, hown, hts⟩ (c_X0_hasNode l D cI cB cO H.size h0 h1 h2 n (nI S) i ) (cwV 1 hts gX4_node_X0_hasNode rfl rfl rfl (by decide +kernel) ⟨Nat.le_of_ble_eq_true rfl, Nat.le_of_ble_eq_true rfl⟩) (preV_of hK hP hD hS hA hSt [1] (by decide) rfl 1 (ci := 0) rfl rfl) rfl rfl hl.1 rfl (lv_room (Nat.le_of_ble_eq_true rfl)) dX4_node_5 ⟨Nat.le_of_ble_eq_true rfl, Nat.le_of_ble_eq_true rfl⟩) hP hD hS hA [1] [0, 2, 3, 4, 5, 6] [0, 6, 1, 2, 3, 4, 5] [(x0, .inr (4, [.ref h0, .ref k0, .ref sA, .int (nI nx), .int (nI sl), .int rb, .int rn, .int rf, .ref t0, .ref w0, .ref s0])), (h1, .inl (cI, 50, .inl F)), (h2, .inl (cI, 6, .inl G)), (w0, .inr (2, [.int wh, .int how, .ref w1, .ref w2])), (w1, .inl (cI, 11, .inl a)), (w2, .inl (cI, 11, .inl b))] (fun (u_1 : Unit) => [(x0, .inr (4, [.ref h0, .ref k0, .ref sA, .int (nI nx), .int (nI sl), .int rb, .int rn, .int rf, .ref t0, .ref w0, .ref s0])), (h0, .inr (0, [.int (nI n), .int (nI S), .ref h1, .ref h2])), (h1, .inl (cI, 50, .inl F)), (h2, .inl (cI, 6, .inl G)), (w0, .inr (2, [.int wh, .int how, .ref w1, .ref w2])), (w1, .inl (cI, 11, .inl a)), (w2, .inl (cI, 11, .inl b))]) rfl rfl (by decide) (by decide) (by decide) (fun _ => rfl) (fun r_1 u_1 H locs q_1 hP hD hS => ?_)
  obtain rfl : r_1 = bI (inR i 0 (nI n)) := q_1
  refine lv_if_eq (tgt := 20) hx hb dX4_node_8 (by decide) (fun c_2 => ?_) (fun c_2 => ?_)
  · have c_2 := bI_0.mp c_2
    refine lv_aload_n hx hb dX4_node_20 rfl (lv_at hl 0 rfl) ?_
    refine lv_ldc (v := -1000002) hx hb hown (hts (.constant RX4 118 (-1000002)) (List.mem_of_getElem? (i := 2) (by decide +kernel))) dX4_node_21 ?_
    refine k_i (va_runV (As := [.int (-1000002)]) (rest := []) ⟨hx, hb, hml, hown, hts⟩ (c_X4_counted l D cI cB cO H.size x0 h0 k0 sA t0 w0 s0 nx sl rb rn rf (-1000002) ) (cwV 1 hts gX4_node_X4_counted rfl rfl rfl (by decide +kernel) ⟨Nat.le_of_ble_eq_true rfl, Nat.le_of_ble_eq_true rfl⟩) (preV_of hK hP hD hS hA hSt [0] (by decide) rfl 0 (ci := 4) rfl rfl) rfl rfl hl.1 rfl (lv_room (Nat.le_of_ble_eq_true rfl)) dX4_node_23 ⟨Nat.le_of_ble_eq_true rfl, Nat.le_of_ble_eq_true rfl⟩) hP hD hS hA [0] [1, 2, 3, 4, 5, 6] [6, 0, 1, 2, 3, 4, 5] [(h0, .inr (0, [.int (nI n), .int (nI S), .ref h1, .ref h2])), (h1, .inl (cI, 50, .inl F)), (h2, .inl (cI, 6, .inl G)), (w0, .inr (2, [.int wh, .int how, .ref w1, .ref w2])), (w1, .inl (cI, 11, .inl a)), (w2, .inl (cI, 11, .inl b))] (fun (u_3 : Unit) => [(x0, .inr (4, [.ref h0, .ref k0, .ref sA, .int (nI nx), .int (nI sl), .int (uB (-1000002) rb), .int (uN (-1000002) rn), .int (uF (-1000002) rf), .ref t0, .ref w0, .ref s0])), (h0, .inr (0, [.int (nI n), .int (nI S), .ref h1, .ref h2])), (h1, .inl (cI, 50, .inl F)), (h2, .inl (cI, 6, .inl G)), (w0, .inr (2, [.int wh, .int how, .ref w1, .ref w2])), (w1, .inl (cI, 11, .inl a)), (w2, .inl (cI, 11, .inl b))]) rfl rfl (by decide) (by decide) (by decide) (fun _ => rfl) (fun r_3 u_3 H locs q_3 hP hD hS => ?_)
    obtain rfl : r_3 = -1000002 := q_3
    rw [show (.int (uB (-1000002) rb) : Value) = .int (bR (okNode n i w) rb) from congrArg Value.int ((uB_B rb).trans (bR_f (by first | assumption | exact and_f1 (by assumption) | exact and_f2 (by assumption))))] at hP hD
    have hP : va_P D vwCl [(x0, .inr (4, [.ref h0, .ref k0, .ref sA, .int (nI nx), .int (nI sl), .int (bR (okNode n i w) rb), .int (uN (-1000002) rn), .int (uF (-1000002) rf), .ref t0, .ref w0, .ref s0])), (h0, .inr (0, [.int (nI n), .int (nI S), .ref h1, .ref h2])), (h1, .inl (cI, 50, .inl F)), (h2, .inl (cI, 6, .inl G)), (w0, .inr (2, [.int wh, .int how, .ref w1, .ref w2])), (w1, .inl (cI, 11, .inl a)), (w2, .inl (cI, 11, .inl b))] H := hP
    have hD : va_D AM [(x0, .inr (4, [.ref h0, .ref k0, .ref sA, .int (nI nx), .int (nI sl), .int (bR (okNode n i w) rb), .int (uN (-1000002) rn), .int (uF (-1000002) rf), .ref t0, .ref w0, .ref s0])), (h0, .inr (0, [.int (nI n), .int (nI S), .ref h1, .ref h2])), (h1, .inl (cI, 50, .inl F)), (h2, .inl (cI, 6, .inl G)), (w0, .inr (2, [.int wh, .int how, .ref w1, .ref w2])), (w1, .inl (cI, 11, .inl a)), (w2, .inl (cI, 11, .inl b))] := hD
    rw [show (.int (uN (-1000002) rn) : Value) = .int rn from congrArg Value.int (uN_B rn)] at hP hD
    have hP : va_P D vwCl [(x0, .inr (4, [.ref h0, .ref k0, .ref sA, .int (nI nx), .int (nI sl), .int (bR (okNode n i w) rb), .int rn, .int (uF (-1000002) rf), .ref t0, .ref w0, .ref s0])), (h0, .inr (0, [.int (nI n), .int (nI S), .ref h1, .ref h2])), (h1, .inl (cI, 50, .inl F)), (h2, .inl (cI, 6, .inl G)), (w0, .inr (2, [.int wh, .int how, .ref w1, .ref w2])), (w1, .inl (cI, 11, .inl a)), (w2, .inl (cI, 11, .inl b))] H := hP
    have hD : va_D AM [(x0, .inr (4, [.ref h0, .ref k0, .ref sA, .int (nI nx), .int (nI sl), .int (bR (okNode n i w) rb), .int rn, .int (uF (-1000002) rf), .ref t0, .ref w0, .ref s0])), (h0, .inr (0, [.int (nI n), .int (nI S), .ref h1, .ref h2])), (h1, .inl (cI, 50, .inl F)), (h2, .inl (cI, 6, .inl G)), (w0, .inr (2, [.int wh, .int how, .ref w1, .ref w2])), (w1, .inl (cI, 11, .inl a)), (w2, .inl (cI, 11, .inl b))] := hD
    rw [show (.int (uF (-1000002) rf) : Value) = .int rf from congrArg Value.int (uF_B rf)] at hP hD
    have hP : va_P D vwCl [(x0, .inr (4, [.ref h0, .ref k0, .ref sA, .int (nI nx), .int (nI sl), .int (bR (okNode n i w) rb), .int rn, .int rf, .ref t0, .ref w0, .ref s0])), (h0, .inr (0, [.int (nI n), .int (nI S), .ref h1, .ref h2])), (h1, .inl (cI, 50, .inl F)), (h2, .inl (cI, 6, .inl G)), (w0, .inr (2, [.int wh, .int how, .ref w1, .ref w2])), (w1, .inl (cI, 11, .inl a)), (w2, .inl (cI, 11, .inl b))] H := hP
    have hD : va_D AM [(x0, .inr (4, [.ref h0, .ref k0, .ref sA, .int (nI nx), .int (nI sl), .int (bR (okNode n i w) rb), .int rn, .int rf, .ref t0, .ref w0, .ref s0])), (h0, .inr (0, [.int (nI n), .int (nI S), .ref h1, .ref h2])), (h1, .inl (cI, 50, .inl F)), (h2, .inl (cI, 6, .inl G)), (w0, .inr (2, [.int wh, .int how, .ref w1, .ref w2])), (w1, .inl (cI, 11, .inl a)), (w2, .inl (cI, 11, .inl b))] := hD
    refine e_i (u := (wh, how, a, b)) hx hb hr hlocks hP hD hS dX4_node_26 ?_ ?_
    · rfl
    · exact rB_f (by first | assumption | exact and_f1 (by assumption) | exact and_f2 (by assumption))
  · have c_2 := bI_n0.mp c_2
    obtain ⟨j, hj, rfl⟩ := node_in hn c_2
    refine lv_iload_n hx hb dX4_node_11 rfl (lv_at hl 2 rfl) ?_
    refine lv_iconst (v := 0) hx hb dX4_node_12 (by decide) ?_
    refine lv_iconst (v := 1) hx hb dX4_node_13 (by decide) ?_
    refine k_i (va_runS (As := [.int w, .int 0, .int 1]) (rest := []) ⟨hx, hb, hml, hown, hts⟩ (c_X4_within l D cI cB cO H.size w 0 1 ) (va_cwS 3 hts gX4_node_X4_within rfl rfl rfl (by decide +kernel) ⟨Nat.le_of_ble_eq_true rfl, Nat.le_of_ble_eq_true rfl⟩) (preS_of hK hP hD hS hA hSt [] (by decide) rfl) rfl rfl hl.1 rfl (lv_room (Nat.le_of_ble_eq_true rfl)) dX4_node_14 ⟨Nat.le_of_ble_eq_true rfl, Nat.le_of_ble_eq_true rfl⟩) hP hD hS hA [] [0, 1, 2, 3, 4, 5, 6] [0, 1, 2, 3, 4, 5, 6] [(x0, .inr (4, [.ref h0, .ref k0, .ref sA, .int (nI nx), .int (nI sl), .int rb, .int rn, .int rf, .ref t0, .ref w0, .ref s0])), (h0, .inr (0, [.int (nI n), .int (nI S), .ref h1, .ref h2])), (h1, .inl (cI, 50, .inl F)), (h2, .inl (cI, 6, .inl G)), (w0, .inr (2, [.int wh, .int how, .ref w1, .ref w2])), (w1, .inl (cI, 11, .inl a)), (w2, .inl (cI, 11, .inl b))] (fun (u_4 : Unit) => [(x0, .inr (4, [.ref h0, .ref k0, .ref sA, .int (nI nx), .int (nI sl), .int rb, .int rn, .int rf, .ref t0, .ref w0, .ref s0])), (h0, .inr (0, [.int (nI n), .int (nI S), .ref h1, .ref h2])), (h1, .inl (cI, 50, .inl F)), (h2, .inl (cI, 6, .inl G)), (w0, .inr (2, [.int wh, .int how, .ref w1, .ref w2])), (w1, .inl (cI, 11, .inl a)), (w2, .inl (cI, 11, .inl b))]) rfl rfl (by decide) (by decide) (by decide) (fun _ => rfl) (fun r_4 u_4 H locs q_4 hP hD hS => ?_)
    obtain rfl : r_4 = bI (inR w 0 1) := q_4
    refine lv_if_ne (tgt := 27) hx hb dX4_node_17 (by decide) (fun c_5 => ?_) (fun c_5 => ?_)
    · have c_5 := bI_n0.mp c_5
      refine lv_aload_n hx hb dX4_node_27 rfl (lv_at hl 0 rfl) ?_
      refine va_get (D := D) (ci := 4) (v := .ref w0) (C := RX4) (T := TX4) (N := 11) hx hb hts in_X4_node_4 hown hK hP 0 rfl rfl 9 (by decide) (hts (.fieldLink RX4 49 "HoseSpans" "water" "LHoseSpans$Run;") (List.mem_of_getElem? (i := 3) (by decide +kernel))) (fun _ h9 => h9) rfl dX4_node_28 ?_
      refine lv_aload_n hx hb dX4_node_31 rfl (lv_at hl 0 rfl) ?_
      refine va_get (D := D) (ci := 4) (v := .ref h0) (C := RX4) (T := TX4) (N := 11) hx hb hts in_X4_node_4 hown hK hP 0 rfl rfl 0 (by decide) (hts (.fieldLink RX4 12 "HoseSpans" "line" "LHoseSpans$Line;") (List.mem_of_getElem? (i := 1) (by decide +kernel))) (fun _ h9 => h9) rfl dX4_node_32 ?_
      refine lv_aload_n hx hb dX4_node_35 rfl (lv_at hl 0 rfl) ?_
      refine va_get (D := D) (ci := 4) (v := .ref h0) (C := RX4) (T := TX4) (N := 11) hx hb hts in_X4_node_4 hown hK hP 0 rfl rfl 0 (by decide) (hts (.fieldLink RX4 12 "HoseSpans" "line" "LHoseSpans$Line;") (List.mem_of_getElem? (i := 1) (by decide +kernel))) (fun _ h9 => h9) rfl dX4_node_36 ?_
      refine va_get (D := D) (ci := 0) (v := .ref h2) (C := RX0) (T := TX0) (N := 4) hx hb hts in_X4_node_0 hown hK hP 1 rfl rfl 3 (by decide) (hts (.fieldLink RX4 88 "HoseSpans$Line" "settings" "[I") (List.mem_of_getElem? (i := 4) (by decide +kernel))) (fun _ h9 => h9) rfl dX4_node_39 ?_
      refine lv_iconst (v := 0) hx hb dX4_node_42 (by decide) ?_
      refine va_iald hx hb hK hP 3 0 rfl rfl (vp_in_nI (n := 0) (by decide) (by decide)) dX4_node_43 ?_
      refine e_n (y := G 0) (congrArg G (by decide)) ?_
      refine k_v (va_runV (As := [.ref h0, .int (G 0)]) (rest := []) ⟨hx, hb, hml, hown, hts⟩ (c_X2_follow l D cI cB cO H.size w0 w1 w2 wh how a b h0 h1 h2 n S F G (G 0) (by first | assumption | omega | exact okFacts.sort (by assumption) (by omega)) (by first | assumption | omega | exact okFacts.sort (by assumption) (by omega))) (cwV 2 hts gX4_node_X2_follow rfl rfl rfl (by decide +kernel) ⟨Nat.le_of_ble_eq_true rfl, Nat.le_of_ble_eq_true rfl⟩) (preV_of hK hP hD hS hA hSt [4, 5, 6, 1, 2, 3] (by decide) rfl 4 (ci := 2) rfl rfl) rfl rfl hl.1 rfl (lv_room (Nat.le_of_ble_eq_true rfl)) dX4_node_44 ⟨Nat.le_of_ble_eq_true rfl, Nat.le_of_ble_eq_true rfl⟩) hP hD hS hA [4, 5, 6, 1, 2, 3] [0] [0, 4, 5, 6, 1, 2, 3] [(x0, .inr (4, [.ref h0, .ref k0, .ref sA, .int (nI nx), .int (nI sl), .int rb, .int rn, .int rf, .ref t0, .ref w0, .ref s0]))] (fun (u_6 : Rs) => [(x0, .inr (4, [.ref h0, .ref k0, .ref sA, .int (nI nx), .int (nI sl), .int rb, .int rn, .int rf, .ref t0, .ref w0, .ref s0])), (h0, .inr (0, [.int (nI n), .int (nI S), .ref h1, .ref h2])), (h1, .inl (cI, 50, .inl F)), (h2, .inl (cI, 6, .inl G)), (w0, .inr (2, [.int u_6.1, .int u_6.2.1, .ref w1, .ref w2])), (w1, .inl (cI, 11, .inl u_6.2.2.1)), (w2, .inl (cI, 11, .inl u_6.2.2.2))]) rfl rfl (by decide) (by decide) (by decide) (fun _ => rfl) (fun u_6 H locs q_6 hP hD hS => ?_)
      obtain rfl : u_6 = (runF F G n (G 0) S) := q_6
      refine lv_iload_n hx hb dX4_node_47 rfl (lv_at hl 2 rfl) ?_
      refine lv_if_ne (tgt := 63) hx hb dX4_node_48 (by decide) (fun c_7 => ?_) (fun c_7 => ?_)
      · refine lv_aload_n hx hb dX4_node_63 rfl (lv_at hl 0 rfl) ?_
        refine va_get (D := D) (ci := 4) (v := .ref w0) (C := RX4) (T := TX4) (N := 11) hx hb hts in_X4_node_4 hown hK hP 0 rfl rfl 9 (by decide) (hts (.fieldLink RX4 49 "HoseSpans" "water" "LHoseSpans$Run;") (List.mem_of_getElem? (i := 3) (by decide +kernel))) (fun _ h9 => h9) rfl dX4_node_64 ?_
        refine va_get (D := D) (ci := 2) (v := .ref w2) (C := RX2) (T := TX2) (N := 4) hx hb hts in_X4_node_2 hown hK hP 4 rfl rfl 3 (by decide) (hts (.fieldLink RX4 135 "HoseSpans$Run" "behind" "[I") (List.mem_of_getElem? (i := 6) (by decide +kernel))) (fun _ h9 => h9) rfl dX4_node_67 ?_
        refine lv_iload_n hx hb dX4_node_70 rfl (lv_at hl 1 rfl) ?_
        refine va_iald hx hb hK hP 6 0 rfl rfl (vp_in_nI (by omega) (by decide)) dX4_node_71 ?_
        refine e_n (y := ((runF F G n (G 0) S).2.2.2) j) (congrArg ((runF F G n (G 0) S).2.2.2) (nI_clamp (by omega))) ?_
        rw [show (.int rb : Value) = .int (bR (okNode n (nI j) w) rb) from congrArg Value.int (bR_t (by first | assumption | exact and_t2 (by assumption) (by assumption)))] at hP hD
        have hP : va_P D vwCl [(x0, .inr (4, [.ref h0, .ref k0, .ref sA, .int (nI nx), .int (nI sl), .int (bR (okNode n (nI j) w) rb), .int rn, .int rf, .ref t0, .ref w0, .ref s0])), (h0, .inr (0, [.int (nI n), .int (nI S), .ref h1, .ref h2])), (h1, .inl (cI, 50, .inl F)), (h2, .inl (cI, 6, .inl G)), (w0, .inr (2, [.int ((runF F G n (G 0) S).1), .int ((runF F G n (G 0) S).2.1), .ref w1, .ref w2])), (w1, .inl (cI, 11, .inl ((runF F G n (G 0) S).2.2.1))), (w2, .inl (cI, 11, .inl ((runF F G n (G 0) S).2.2.2)))] H := hP
        have hD : va_D AM [(x0, .inr (4, [.ref h0, .ref k0, .ref sA, .int (nI nx), .int (nI sl), .int (bR (okNode n (nI j) w) rb), .int rn, .int rf, .ref t0, .ref w0, .ref s0])), (h0, .inr (0, [.int (nI n), .int (nI S), .ref h1, .ref h2])), (h1, .inl (cI, 50, .inl F)), (h2, .inl (cI, 6, .inl G)), (w0, .inr (2, [.int ((runF F G n (G 0) S).1), .int ((runF F G n (G 0) S).2.1), .ref w1, .ref w2])), (w1, .inl (cI, 11, .inl ((runF F G n (G 0) S).2.2.1))), (w2, .inl (cI, 11, .inl ((runF F G n (G 0) S).2.2.2)))] := hD
        refine e_i (u := (runF F G n (G 0) S)) hx hb hr hlocks hP hD hS dX4_node_72 ?_ ?_
        · rfl
        · first | exact rB_t2 (by first | assumption | exact and_t2 (by assumption) (by assumption)) (by unfold nodeF; rw [if_pos (by assumption), pl_nI (show j < 2147483648 by omega)]) | exact rB_t2 (by first | assumption | exact and_t2 (by assumption) (by assumption)) (by unfold nodeF; rw [if_neg (by assumption), pl_nI (show j < 2147483648 by omega)])
      · refine lv_aload_n hx hb dX4_node_51 rfl (lv_at hl 0 rfl) ?_
        refine va_get (D := D) (ci := 4) (v := .ref w0) (C := RX4) (T := TX4) (N := 11) hx hb hts in_X4_node_4 hown hK hP 0 rfl rfl 9 (by decide) (hts (.fieldLink RX4 49 "HoseSpans" "water" "LHoseSpans$Run;") (List.mem_of_getElem? (i := 3) (by decide +kernel))) (fun _ h9 => h9) rfl dX4_node_52 ?_
        refine va_get (D := D) (ci := 2) (v := .ref w1) (C := RX2) (T := TX2) (N := 4) hx hb hts in_X4_node_2 hown hK hP 4 rfl rfl 2 (by decide) (hts (.fieldLink RX4 132 "HoseSpans$Run" "in" "[I") (List.mem_of_getElem? (i := 5) (by decide +kernel))) (fun _ h9 => h9) rfl dX4_node_55 ?_
        refine lv_iload_n hx hb dX4_node_58 rfl (lv_at hl 1 rfl) ?_
        refine va_iald hx hb hK hP 5 0 rfl rfl (vp_in_nI (by omega) (by decide)) dX4_node_59 ?_
        refine e_n (y := ((runF F G n (G 0) S).2.2.1) j) (congrArg ((runF F G n (G 0) S).2.2.1) (nI_clamp (by omega))) ?_
        refine lv_goto (tgt := 72) hx hb dX4_node_60 (by decide) ?_
        rw [show (.int rb : Value) = .int (bR (okNode n (nI j) w) rb) from congrArg Value.int (bR_t (by first | assumption | exact and_t2 (by assumption) (by assumption)))] at hP hD
        have hP : va_P D vwCl [(x0, .inr (4, [.ref h0, .ref k0, .ref sA, .int (nI nx), .int (nI sl), .int (bR (okNode n (nI j) w) rb), .int rn, .int rf, .ref t0, .ref w0, .ref s0])), (h0, .inr (0, [.int (nI n), .int (nI S), .ref h1, .ref h2])), (h1, .inl (cI, 50, .inl F)), (h2, .inl (cI, 6, .inl G)), (w0, .inr (2, [.int ((runF F G n (G 0) S).1), .int ((runF F G n (G 0) S).2.1), .ref w1, .ref w2])), (w1, .inl (cI, 11, .inl ((runF F G n (G 0) S).2.2.1))), (w2, .inl (cI, 11, .inl ((runF F G n (G 0) S).2.2.2)))] H := hP
        have hD : va_D AM [(x0, .inr (4, [.ref h0, .ref k0, .ref sA, .int (nI nx), .int (nI sl), .int (bR (okNode n (nI j) w) rb), .int rn, .int rf, .ref t0, .ref w0, .ref s0])), (h0, .inr (0, [.int (nI n), .int (nI S), .ref h1, .ref h2])), (h1, .inl (cI, 50, .inl F)), (h2, .inl (cI, 6, .inl G)), (w0, .inr (2, [.int ((runF F G n (G 0) S).1), .int ((runF F G n (G 0) S).2.1), .ref w1, .ref w2])), (w1, .inl (cI, 11, .inl ((runF F G n (G 0) S).2.2.1))), (w2, .inl (cI, 11, .inl ((runF F G n (G 0) S).2.2.2)))] := hD
        refine e_i (u := (runF F G n (G 0) S)) hx hb hr hlocks hP hD hS dX4_node_72 ?_ ?_
        · rfl
        · first | exact rB_t2 (by first | assumption | exact and_t2 (by assumption) (by assumption)) (by unfold nodeF; rw [if_pos (by assumption), pl_nI (show j < 2147483648 by omega)]) | exact rB_t2 (by first | assumption | exact and_t2 (by assumption) (by assumption)) (by unfold nodeF; rw [if_neg (by assumption), pl_nI (show j < 2147483648 by omega)])
    · have c_5 := bI_0.mp c_5
      refine lv_aload_n hx hb dX4_node_20 rfl (lv_at hl 0 rfl) ?_
      refine lv_ldc (v := -1000002) hx hb hown (hts (.constant RX4 118 (-1000002)) (List.mem_of_getElem? (i := 2) (by decide +kernel))) dX4_node_21 ?_
      refine k_i (va_runV (As := [.int (-1000002)]) (rest := []) ⟨hx, hb, hml, hown, hts⟩ (c_X4_counted l D cI cB cO H.size x0 h0 k0 sA t0 w0 s0 nx sl rb rn rf (-1000002) ) (cwV 1 hts gX4_node_X4_counted rfl rfl rfl (by decide +kernel) ⟨Nat.le_of_ble_eq_true rfl, Nat.le_of_ble_eq_true rfl⟩) (preV_of hK hP hD hS hA hSt [0] (by decide) rfl 0 (ci := 4) rfl rfl) rfl rfl hl.1 rfl (lv_room (Nat.le_of_ble_eq_true rfl)) dX4_node_23 ⟨Nat.le_of_ble_eq_true rfl, Nat.le_of_ble_eq_true rfl⟩) hP hD hS hA [0] [1, 2, 3, 4, 5, 6] [6, 0, 1, 2, 3, 4, 5] [(h0, .inr (0, [.int (nI n), .int (nI S), .ref h1, .ref h2])), (h1, .inl (cI, 50, .inl F)), (h2, .inl (cI, 6, .inl G)), (w0, .inr (2, [.int wh, .int how, .ref w1, .ref w2])), (w1, .inl (cI, 11, .inl a)), (w2, .inl (cI, 11, .inl b))] (fun (u_8 : Unit) => [(x0, .inr (4, [.ref h0, .ref k0, .ref sA, .int (nI nx), .int (nI sl), .int (uB (-1000002) rb), .int (uN (-1000002) rn), .int (uF (-1000002) rf), .ref t0, .ref w0, .ref s0])), (h0, .inr (0, [.int (nI n), .int (nI S), .ref h1, .ref h2])), (h1, .inl (cI, 50, .inl F)), (h2, .inl (cI, 6, .inl G)), (w0, .inr (2, [.int wh, .int how, .ref w1, .ref w2])), (w1, .inl (cI, 11, .inl a)), (w2, .inl (cI, 11, .inl b))]) rfl rfl (by decide) (by decide) (by decide) (fun _ => rfl) (fun r_8 u_8 H locs q_8 hP hD hS => ?_)
      obtain rfl : r_8 = -1000002 := q_8
      rw [show (.int (uB (-1000002) rb) : Value) = .int (bR (okNode n (nI j) w) rb) from congrArg Value.int ((uB_B rb).trans (bR_f (by first | assumption | exact and_f1 (by assumption) | exact and_f2 (by assumption))))] at hP hD
      have hP : va_P D vwCl [(x0, .inr (4, [.ref h0, .ref k0, .ref sA, .int (nI nx), .int (nI sl), .int (bR (okNode n (nI j) w) rb), .int (uN (-1000002) rn), .int (uF (-1000002) rf), .ref t0, .ref w0, .ref s0])), (h0, .inr (0, [.int (nI n), .int (nI S), .ref h1, .ref h2])), (h1, .inl (cI, 50, .inl F)), (h2, .inl (cI, 6, .inl G)), (w0, .inr (2, [.int wh, .int how, .ref w1, .ref w2])), (w1, .inl (cI, 11, .inl a)), (w2, .inl (cI, 11, .inl b))] H := hP
      have hD : va_D AM [(x0, .inr (4, [.ref h0, .ref k0, .ref sA, .int (nI nx), .int (nI sl), .int (bR (okNode n (nI j) w) rb), .int (uN (-1000002) rn), .int (uF (-1000002) rf), .ref t0, .ref w0, .ref s0])), (h0, .inr (0, [.int (nI n), .int (nI S), .ref h1, .ref h2])), (h1, .inl (cI, 50, .inl F)), (h2, .inl (cI, 6, .inl G)), (w0, .inr (2, [.int wh, .int how, .ref w1, .ref w2])), (w1, .inl (cI, 11, .inl a)), (w2, .inl (cI, 11, .inl b))] := hD
      rw [show (.int (uN (-1000002) rn) : Value) = .int rn from congrArg Value.int (uN_B rn)] at hP hD
      have hP : va_P D vwCl [(x0, .inr (4, [.ref h0, .ref k0, .ref sA, .int (nI nx), .int (nI sl), .int (bR (okNode n (nI j) w) rb), .int rn, .int (uF (-1000002) rf), .ref t0, .ref w0, .ref s0])), (h0, .inr (0, [.int (nI n), .int (nI S), .ref h1, .ref h2])), (h1, .inl (cI, 50, .inl F)), (h2, .inl (cI, 6, .inl G)), (w0, .inr (2, [.int wh, .int how, .ref w1, .ref w2])), (w1, .inl (cI, 11, .inl a)), (w2, .inl (cI, 11, .inl b))] H := hP
      have hD : va_D AM [(x0, .inr (4, [.ref h0, .ref k0, .ref sA, .int (nI nx), .int (nI sl), .int (bR (okNode n (nI j) w) rb), .int rn, .int (uF (-1000002) rf), .ref t0, .ref w0, .ref s0])), (h0, .inr (0, [.int (nI n), .int (nI S), .ref h1, .ref h2])), (h1, .inl (cI, 50, .inl F)), (h2, .inl (cI, 6, .inl G)), (w0, .inr (2, [.int wh, .int how, .ref w1, .ref w2])), (w1, .inl (cI, 11, .inl a)), (w2, .inl (cI, 11, .inl b))] := hD
      rw [show (.int (uF (-1000002) rf) : Value) = .int rf from congrArg Value.int (uF_B rf)] at hP hD
      have hP : va_P D vwCl [(x0, .inr (4, [.ref h0, .ref k0, .ref sA, .int (nI nx), .int (nI sl), .int (bR (okNode n (nI j) w) rb), .int rn, .int rf, .ref t0, .ref w0, .ref s0])), (h0, .inr (0, [.int (nI n), .int (nI S), .ref h1, .ref h2])), (h1, .inl (cI, 50, .inl F)), (h2, .inl (cI, 6, .inl G)), (w0, .inr (2, [.int wh, .int how, .ref w1, .ref w2])), (w1, .inl (cI, 11, .inl a)), (w2, .inl (cI, 11, .inl b))] H := hP
      have hD : va_D AM [(x0, .inr (4, [.ref h0, .ref k0, .ref sA, .int (nI nx), .int (nI sl), .int (bR (okNode n (nI j) w) rb), .int rn, .int rf, .ref t0, .ref w0, .ref s0])), (h0, .inr (0, [.int (nI n), .int (nI S), .ref h1, .ref h2])), (h1, .inl (cI, 50, .inl F)), (h2, .inl (cI, 6, .inl G)), (w0, .inr (2, [.int wh, .int how, .ref w1, .ref w2])), (w1, .inl (cI, 11, .inl a)), (w2, .inl (cI, 11, .inl b))] := hD
      refine e_i (u := (wh, how, a, b)) hx hb hr hlocks hP hD hS dX4_node_26 ?_ ?_
      · rfl
      · exact rB_f (by first | assumption | exact and_f1 (by assumption) | exact and_f2 (by assumption))
theorem in_X4_run_0 : ∀ w ∈ wsX00, w ∈ wsX4_run := fun _ h => List.mem_cons_of_mem _ (List.mem_append_left _ (List.mem_append_right _ h))
theorem in_X4_run_2 : ∀ w ∈ wsX20, w ∈ wsX4_run := fun _ h => List.mem_cons_of_mem _ (List.mem_append_right _ h)
theorem in_X4_run_4 : ∀ w ∈ wsX40, w ∈ wsX4_run := fun _ h => List.mem_cons_of_mem _ (List.mem_append_left _ (List.mem_append_left _ (List.mem_append_right _ h)))
set_option maxHeartbeats 4000000 in
set_option maxRecDepth 100000 in
theorem c_X4_run (l : Launch) (D : va_G) (cI cB cO : ClassId) (sz : Nat) (x0 h0 k0 sA t0 w0 s0 nx sl : Nat) (rb rn rf : Int32) (h1 h2 n S : Nat) (F G : Nat → Int32) (w1 w2 : Nat) (wh how : Int32) (a b : Nat → Int32) (w : Int32) (hn : n ≤ 10) (hf : okFacts F) : CI l yX4_run wsX4_run ({ frames := 5, cells := 0, slots := 0, locals := 118 } : Room) D (tyL cI cB cO) [.ref x0, .int w] [(x0, .inr (4, [.ref h0, .ref k0, .ref sA, .int (nI nx), .int (nI sl), .int rb, .int rn, .int rf, .ref t0, .ref w0, .ref s0])), (h0, .inr (0, [.int (nI n), .int (nI S), .ref h1, .ref h2])), (h1, .inl (cI, 50, .inl F)), (h2, .inl (cI, 6, .inl G)), (w0, .inr (2, [.int wh, .int how, .ref w1, .ref w2])), (w1, .inl (cI, 11, .inl a)), (w2, .inl (cI, 11, .inl b))] sz (fun (r : Int32) (_ : Rs) => r = rB (inR w 0 2) (runA F G n S w)) (fun (u : Rs) => [(x0, .inr (4, [.ref h0, .ref k0, .ref sA, .int (nI nx), .int (nI sl), .int (bR (inR w 0 2) rb), .int rn, .int rf, .ref t0, .ref w0, .ref s0])), (h0, .inr (0, [.int (nI n), .int (nI S), .ref h1, .ref h2])), (h1, .inl (cI, 50, .inl F)), (h2, .inl (cI, 6, .inl G)), (w0, .inr (2, [.int u.1, .int u.2.1, .ref w1, .ref w2])), (w1, .inl (cI, 11, .inl u.2.2.1)), (w2, .inl (cI, 11, .inl u.2.2.2))]) 0 0 := by
  refine ct_of (cc := cX4_run) (maxL := 2) (ret := some .int) (own := RX4) (Qc := QI D (fun (r : Int32) (_ : Rs) => r = rB (inR w 0 2) (runA F G n S w)) (fun (u : Rs) => [(x0, .inr (4, [.ref h0, .ref k0, .ref sA, .int (nI nx), .int (nI sl), .int (bR (inR w 0 2) rb), .int rn, .int rf, .ref t0, .ref w0, .ref s0])), (h0, .inr (0, [.int (nI n), .int (nI S), .ref h1, .ref h2])), (h1, .inl (cI, 50, .inl F)), (h2, .inl (cI, 6, .inl G)), (w0, .inr (2, [.int u.1, .int u.2.1, .ref w1, .ref w2])), (w1, .inl (cI, 11, .inl u.2.2.1)), (w2, .inl (cI, 11, .inl u.2.2.2))])) (by decide) rfl rfl (Nat.le_of_ble_eq_true rfl) ?_
  intro pM eM sM mM below meth cM AM ls H locs hx hb hr hts hown hlocks hml hin hK hP hD hS hA hSt hl
  have hl : lv_has ls 2 [(0, .ref x0), (1, .int w)] := hl
  refine lv_iload_n hx hb dX4_run_0 rfl (lv_at hl 1 rfl) ?_
  refine lv_iconst (v := 0) hx hb dX4_run_1 (by decide) ?_
  refine lv_iconst (v := 2) hx hb dX4_run_2 (by decide) ?_
  refine k_i (va_runS (As := [.int w, .int 0, .int 2]) (rest := []) ⟨hx, hb, hml, hown, hts⟩ (c_X4_within l D cI cB cO H.size w 0 2 ) (va_cwS 3 hts gX4_run_X4_within rfl rfl rfl (by decide +kernel) ⟨Nat.le_of_ble_eq_true rfl, Nat.le_of_ble_eq_true rfl⟩) (preS_of hK hP hD hS hA hSt [] (by decide) rfl) rfl rfl hl.1 rfl (lv_room (Nat.le_of_ble_eq_true rfl)) dX4_run_3 ⟨Nat.le_of_ble_eq_true rfl, Nat.le_of_ble_eq_true rfl⟩) hP hD hS hA [] [0, 1, 2, 3, 4, 5, 6] [0, 1, 2, 3, 4, 5, 6] [(x0, .inr (4, [.ref h0, .ref k0, .ref sA, .int (nI nx), .int (nI sl), .int rb, .int rn, .int rf, .ref t0, .ref w0, .ref s0])), (h0, .inr (0, [.int (nI n), .int (nI S), .ref h1, .ref h2])), (h1, .inl (cI, 50, .inl F)), (h2, .inl (cI, 6, .inl G)), (w0, .inr (2, [.int wh, .int how, .ref w1, .ref w2])), (w1, .inl (cI, 11, .inl a)), (w2, .inl (cI, 11, .inl b))] (fun (u_1 : Unit) => [(x0, .inr (4, [.ref h0, .ref k0, .ref sA, .int (nI nx), .int (nI sl), .int rb, .int rn, .int rf, .ref t0, .ref w0, .ref s0])), (h0, .inr (0, [.int (nI n), .int (nI S), .ref h1, .ref h2])), (h1, .inl (cI, 50, .inl F)), (h2, .inl (cI, 6, .inl G)), (w0, .inr (2, [.int wh, .int how, .ref w1, .ref w2])), (w1, .inl (cI, 11, .inl a)), (w2, .inl (cI, 11, .inl b))]) rfl rfl (by decide) (by decide) (by decide) (fun _ => rfl) (fun r_1 u_1 H locs q_1 hP hD hS => ?_)
  obtain rfl : r_1 = bI (inR w 0 2) := q_1
  refine lv_if_ne (tgt := 16) hx hb dX4_run_6 (by decide) (fun c_2 => ?_) (fun c_2 => ?_)
  · have c_2 := bI_n0.mp c_2
    refine lv_aload_n hx hb dX4_run_16 rfl (lv_at hl 0 rfl) ?_
    refine va_get (D := D) (ci := 4) (v := .ref w0) (C := RX4) (T := TX4) (N := 11) hx hb hts in_X4_run_4 hown hK hP 0 rfl rfl 9 (by decide) (hts (.fieldLink RX4 49 "HoseSpans" "water" "LHoseSpans$Run;") (List.mem_of_getElem? (i := 2) (by decide +kernel))) (fun _ h9 => h9) rfl dX4_run_17 ?_
    refine lv_aload_n hx hb dX4_run_20 rfl (lv_at hl 0 rfl) ?_
    refine va_get (D := D) (ci := 4) (v := .ref h0) (C := RX4) (T := TX4) (N := 11) hx hb hts in_X4_run_4 hown hK hP 0 rfl rfl 0 (by decide) (hts (.fieldLink RX4 12 "HoseSpans" "line" "LHoseSpans$Line;") (List.mem_of_getElem? (i := 3) (by decide +kernel))) (fun _ h9 => h9) rfl dX4_run_21 ?_
    refine lv_aload_n hx hb dX4_run_24 rfl (lv_at hl 0 rfl) ?_
    refine va_get (D := D) (ci := 4) (v := .ref h0) (C := RX4) (T := TX4) (N := 11) hx hb hts in_X4_run_4 hown hK hP 0 rfl rfl 0 (by decide) (hts (.fieldLink RX4 12 "HoseSpans" "line" "LHoseSpans$Line;") (List.mem_of_getElem? (i := 3) (by decide +kernel))) (fun _ h9 => h9) rfl dX4_run_25 ?_
    refine va_get (D := D) (ci := 0) (v := .ref h2) (C := RX0) (T := TX0) (N := 4) hx hb hts in_X4_run_0 hown hK hP 1 rfl rfl 3 (by decide) (hts (.fieldLink RX4 88 "HoseSpans$Line" "settings" "[I") (List.mem_of_getElem? (i := 4) (by decide +kernel))) (fun _ h9 => h9) rfl dX4_run_28 ?_
    refine lv_iconst (v := 0) hx hb dX4_run_31 (by decide) ?_
    refine va_iald hx hb hK hP 3 0 rfl rfl (vp_in_nI (n := 0) (by decide) (by decide)) dX4_run_32 ?_
    refine e_n (y := G 0) (congrArg G (by decide)) ?_
    refine k_v (va_runV (As := [.ref h0, .int (G 0)]) (rest := []) ⟨hx, hb, hml, hown, hts⟩ (c_X2_follow l D cI cB cO H.size w0 w1 w2 wh how a b h0 h1 h2 n S F G (G 0) (by first | assumption | omega | exact okFacts.sort (by assumption) (by omega)) (by first | assumption | omega | exact okFacts.sort (by assumption) (by omega))) (cwV 2 hts gX4_run_X2_follow rfl rfl rfl (by decide +kernel) ⟨Nat.le_of_ble_eq_true rfl, Nat.le_of_ble_eq_true rfl⟩) (preV_of hK hP hD hS hA hSt [4, 5, 6, 1, 2, 3] (by decide) rfl 4 (ci := 2) rfl rfl) rfl rfl hl.1 rfl (lv_room (Nat.le_of_ble_eq_true rfl)) dX4_run_33 ⟨Nat.le_of_ble_eq_true rfl, Nat.le_of_ble_eq_true rfl⟩) hP hD hS hA [4, 5, 6, 1, 2, 3] [0] [0, 4, 5, 6, 1, 2, 3] [(x0, .inr (4, [.ref h0, .ref k0, .ref sA, .int (nI nx), .int (nI sl), .int rb, .int rn, .int rf, .ref t0, .ref w0, .ref s0]))] (fun (u_3 : Rs) => [(x0, .inr (4, [.ref h0, .ref k0, .ref sA, .int (nI nx), .int (nI sl), .int rb, .int rn, .int rf, .ref t0, .ref w0, .ref s0])), (h0, .inr (0, [.int (nI n), .int (nI S), .ref h1, .ref h2])), (h1, .inl (cI, 50, .inl F)), (h2, .inl (cI, 6, .inl G)), (w0, .inr (2, [.int u_3.1, .int u_3.2.1, .ref w1, .ref w2])), (w1, .inl (cI, 11, .inl u_3.2.2.1)), (w2, .inl (cI, 11, .inl u_3.2.2.2))]) rfl rfl (by decide) (by decide) (by decide) (fun _ => rfl) (fun u_3 H locs q_3 hP hD hS => ?_)
    obtain rfl : u_3 = (runF F G n (G 0) S) := q_3
    refine lv_iload_n hx hb dX4_run_36 rfl (lv_at hl 1 rfl) ?_
    by_cases k_4 : w = 0
    · refine lv_lookup (off := 27) (tgt := 64) hx hb dX4_run_37 (by decide) (by rw [k_4]; decide) (by decide) ?_
      refine lv_aload_n hx hb dX4_run_64 rfl (lv_at hl 0 rfl) ?_
      refine va_get (D := D) (ci := 4) (v := .ref w0) (C := RX4) (T := TX4) (N := 11) hx hb hts in_X4_run_4 hown hK hP 0 rfl rfl 9 (by decide) (hts (.fieldLink RX4 49 "HoseSpans" "water" "LHoseSpans$Run;") (List.mem_of_getElem? (i := 2) (by decide +kernel))) (fun _ h9 => h9) rfl dX4_run_65 ?_
      refine va_get (D := D) (ci := 2) (v := .int ((runF F G n (G 0) S).1)) (C := RX2) (T := TX2) (N := 4) hx hb hts in_X4_run_2 hown hK hP 4 rfl rfl 0 (by decide) (hts (.fieldLink RX4 138 "HoseSpans$Run" "where" "I") (List.mem_of_getElem? (i := 5) (by decide +kernel))) (fun _ h9 => h9) rfl dX4_run_68 ?_
      rw [show (.int rb : Value) = .int (bR (inR w 0 2) rb) from congrArg Value.int (bR_t (by first | assumption | exact and_t2 (by assumption) (by assumption)))] at hP hD
      have hP : va_P D vwCl [(x0, .inr (4, [.ref h0, .ref k0, .ref sA, .int (nI nx), .int (nI sl), .int (bR (inR w 0 2) rb), .int rn, .int rf, .ref t0, .ref w0, .ref s0])), (h0, .inr (0, [.int (nI n), .int (nI S), .ref h1, .ref h2])), (h1, .inl (cI, 50, .inl F)), (h2, .inl (cI, 6, .inl G)), (w0, .inr (2, [.int ((runF F G n (G 0) S).1), .int ((runF F G n (G 0) S).2.1), .ref w1, .ref w2])), (w1, .inl (cI, 11, .inl ((runF F G n (G 0) S).2.2.1))), (w2, .inl (cI, 11, .inl ((runF F G n (G 0) S).2.2.2)))] H := hP
      have hD : va_D AM [(x0, .inr (4, [.ref h0, .ref k0, .ref sA, .int (nI nx), .int (nI sl), .int (bR (inR w 0 2) rb), .int rn, .int rf, .ref t0, .ref w0, .ref s0])), (h0, .inr (0, [.int (nI n), .int (nI S), .ref h1, .ref h2])), (h1, .inl (cI, 50, .inl F)), (h2, .inl (cI, 6, .inl G)), (w0, .inr (2, [.int ((runF F G n (G 0) S).1), .int ((runF F G n (G 0) S).2.1), .ref w1, .ref w2])), (w1, .inl (cI, 11, .inl ((runF F G n (G 0) S).2.2.1))), (w2, .inl (cI, 11, .inl ((runF F G n (G 0) S).2.2.2)))] := hD
      refine e_i (u := (runF F G n (G 0) S)) hx hb hr hlocks hP hD hS dX4_run_71 ?_ ?_
      · rfl
      · exact rB_t2 (by first | assumption | exact and_t2 (by assumption) (by assumption)) (by unfold runA; rw [if_pos (by assumption)])
    by_cases k_5 : w = 1
    · refine lv_lookup (off := 35) (tgt := 72) hx hb dX4_run_37 (by decide) (by rw [k_5]; decide) (by decide) ?_
      refine lv_aload_n hx hb dX4_run_72 rfl (lv_at hl 0 rfl) ?_
      refine va_get (D := D) (ci := 4) (v := .ref w0) (C := RX4) (T := TX4) (N := 11) hx hb hts in_X4_run_4 hown hK hP 0 rfl rfl 9 (by decide) (hts (.fieldLink RX4 49 "HoseSpans" "water" "LHoseSpans$Run;") (List.mem_of_getElem? (i := 2) (by decide +kernel))) (fun _ h9 => h9) rfl dX4_run_73 ?_
      refine va_get (D := D) (ci := 2) (v := .int ((runF F G n (G 0) S).2.1)) (C := RX2) (T := TX2) (N := 4) hx hb hts in_X4_run_2 hown hK hP 4 rfl rfl 1 (by decide) (hts (.fieldLink RX4 141 "HoseSpans$Run" "how" "I") (List.mem_of_getElem? (i := 6) (by decide +kernel))) (fun _ h9 => h9) rfl dX4_run_76 ?_
      rw [show (.int rb : Value) = .int (bR (inR w 0 2) rb) from congrArg Value.int (bR_t (by first | assumption | exact and_t2 (by assumption) (by assumption)))] at hP hD
      have hP : va_P D vwCl [(x0, .inr (4, [.ref h0, .ref k0, .ref sA, .int (nI nx), .int (nI sl), .int (bR (inR w 0 2) rb), .int rn, .int rf, .ref t0, .ref w0, .ref s0])), (h0, .inr (0, [.int (nI n), .int (nI S), .ref h1, .ref h2])), (h1, .inl (cI, 50, .inl F)), (h2, .inl (cI, 6, .inl G)), (w0, .inr (2, [.int ((runF F G n (G 0) S).1), .int ((runF F G n (G 0) S).2.1), .ref w1, .ref w2])), (w1, .inl (cI, 11, .inl ((runF F G n (G 0) S).2.2.1))), (w2, .inl (cI, 11, .inl ((runF F G n (G 0) S).2.2.2)))] H := hP
      have hD : va_D AM [(x0, .inr (4, [.ref h0, .ref k0, .ref sA, .int (nI nx), .int (nI sl), .int (bR (inR w 0 2) rb), .int rn, .int rf, .ref t0, .ref w0, .ref s0])), (h0, .inr (0, [.int (nI n), .int (nI S), .ref h1, .ref h2])), (h1, .inl (cI, 50, .inl F)), (h2, .inl (cI, 6, .inl G)), (w0, .inr (2, [.int ((runF F G n (G 0) S).1), .int ((runF F G n (G 0) S).2.1), .ref w1, .ref w2])), (w1, .inl (cI, 11, .inl ((runF F G n (G 0) S).2.2.1))), (w2, .inl (cI, 11, .inl ((runF F G n (G 0) S).2.2.2)))] := hD
      refine e_i (u := (runF F G n (G 0) S)) hx hb hr hlocks hP hD hS dX4_run_79 ?_ ?_
      · rfl
      · exact rB_t2 (by first | assumption | exact and_t2 (by assumption) (by assumption)) (by unfold runA; rw [if_neg (by assumption), if_pos (by assumption)])
    have nk_4 : Int32.toInt w ≠ 0 := ne_ti (by decide) k_4
    have nk_5 : Int32.toInt w ≠ 1 := ne_ti (by decide) k_5
    refine lv_lookup (off := 43) (tgt := 80) hx hb dX4_run_37 (by decide) (by simp [Op.lookupswitch.offset, nk_4, nk_5, Ne.symm nk_4, Ne.symm nk_5]) (by decide) ?_
    refine lv_aload_n hx hb dX4_run_80 rfl (lv_at hl 0 rfl) ?_
    refine va_get (D := D) (ci := 4) (v := .ref w0) (C := RX4) (T := TX4) (N := 11) hx hb hts in_X4_run_4 hown hK hP 0 rfl rfl 9 (by decide) (hts (.fieldLink RX4 49 "HoseSpans" "water" "LHoseSpans$Run;") (List.mem_of_getElem? (i := 2) (by decide +kernel))) (fun _ h9 => h9) rfl dX4_run_81 ?_
    refine va_get (D := D) (ci := 2) (v := .ref w2) (C := RX2) (T := TX2) (N := 4) hx hb hts in_X4_run_2 hown hK hP 4 rfl rfl 3 (by decide) (hts (.fieldLink RX4 135 "HoseSpans$Run" "behind" "[I") (List.mem_of_getElem? (i := 7) (by decide +kernel))) (fun _ h9 => h9) rfl dX4_run_84 ?_
    refine lv_aload_n hx hb dX4_run_87 rfl (lv_at hl 0 rfl) ?_
    refine va_get (D := D) (ci := 4) (v := .ref h0) (C := RX4) (T := TX4) (N := 11) hx hb hts in_X4_run_4 hown hK hP 0 rfl rfl 0 (by decide) (hts (.fieldLink RX4 12 "HoseSpans" "line" "LHoseSpans$Line;") (List.mem_of_getElem? (i := 3) (by decide +kernel))) (fun _ h9 => h9) rfl dX4_run_88 ?_
    refine va_get (D := D) (ci := 0) (v := .int (nI n)) (C := RX0) (T := TX0) (N := 4) hx hb hts in_X4_run_0 hown hK hP 1 rfl rfl 0 (by decide) (hts (.fieldLink RX4 144 "HoseSpans$Line" "spans" "I") (List.mem_of_getElem? (i := 8) (by decide +kernel))) (fun _ h9 => h9) rfl dX4_run_91 ?_
    refine va_iald hx hb hK hP 6 0 rfl rfl (vp_in_nI (by omega) (by decide)) dX4_run_94 ?_
    refine e_n (y := ((runF F G n (G 0) S).2.2.2) n) (congrArg ((runF F G n (G 0) S).2.2.2) (nI_clamp (by omega))) ?_
    rw [show (.int rb : Value) = .int (bR (inR w 0 2) rb) from congrArg Value.int (bR_t (by first | assumption | exact and_t2 (by assumption) (by assumption)))] at hP hD
    have hP : va_P D vwCl [(x0, .inr (4, [.ref h0, .ref k0, .ref sA, .int (nI nx), .int (nI sl), .int (bR (inR w 0 2) rb), .int rn, .int rf, .ref t0, .ref w0, .ref s0])), (h0, .inr (0, [.int (nI n), .int (nI S), .ref h1, .ref h2])), (h1, .inl (cI, 50, .inl F)), (h2, .inl (cI, 6, .inl G)), (w0, .inr (2, [.int ((runF F G n (G 0) S).1), .int ((runF F G n (G 0) S).2.1), .ref w1, .ref w2])), (w1, .inl (cI, 11, .inl ((runF F G n (G 0) S).2.2.1))), (w2, .inl (cI, 11, .inl ((runF F G n (G 0) S).2.2.2)))] H := hP
    have hD : va_D AM [(x0, .inr (4, [.ref h0, .ref k0, .ref sA, .int (nI nx), .int (nI sl), .int (bR (inR w 0 2) rb), .int rn, .int rf, .ref t0, .ref w0, .ref s0])), (h0, .inr (0, [.int (nI n), .int (nI S), .ref h1, .ref h2])), (h1, .inl (cI, 50, .inl F)), (h2, .inl (cI, 6, .inl G)), (w0, .inr (2, [.int ((runF F G n (G 0) S).1), .int ((runF F G n (G 0) S).2.1), .ref w1, .ref w2])), (w1, .inl (cI, 11, .inl ((runF F G n (G 0) S).2.2.1))), (w2, .inl (cI, 11, .inl ((runF F G n (G 0) S).2.2.2)))] := hD
    refine e_i (u := (runF F G n (G 0) S)) hx hb hr hlocks hP hD hS dX4_run_95 ?_ ?_
    · rfl
    · exact rB_t2 (by first | assumption | exact and_t2 (by assumption) (by assumption)) (by unfold runA; rw [if_neg (by assumption), if_neg (by assumption)])
  · have c_2 := bI_0.mp c_2
    refine lv_aload_n hx hb dX4_run_9 rfl (lv_at hl 0 rfl) ?_
    refine lv_ldc (v := -1000002) hx hb hown (hts (.constant RX4 118 (-1000002)) (List.mem_of_getElem? (i := 1) (by decide +kernel))) dX4_run_10 ?_
    refine k_i (va_runV (As := [.int (-1000002)]) (rest := []) ⟨hx, hb, hml, hown, hts⟩ (c_X4_counted l D cI cB cO H.size x0 h0 k0 sA t0 w0 s0 nx sl rb rn rf (-1000002) ) (cwV 1 hts gX4_run_X4_counted rfl rfl rfl (by decide +kernel) ⟨Nat.le_of_ble_eq_true rfl, Nat.le_of_ble_eq_true rfl⟩) (preV_of hK hP hD hS hA hSt [0] (by decide) rfl 0 (ci := 4) rfl rfl) rfl rfl hl.1 rfl (lv_room (Nat.le_of_ble_eq_true rfl)) dX4_run_12 ⟨Nat.le_of_ble_eq_true rfl, Nat.le_of_ble_eq_true rfl⟩) hP hD hS hA [0] [1, 2, 3, 4, 5, 6] [6, 0, 1, 2, 3, 4, 5] [(h0, .inr (0, [.int (nI n), .int (nI S), .ref h1, .ref h2])), (h1, .inl (cI, 50, .inl F)), (h2, .inl (cI, 6, .inl G)), (w0, .inr (2, [.int wh, .int how, .ref w1, .ref w2])), (w1, .inl (cI, 11, .inl a)), (w2, .inl (cI, 11, .inl b))] (fun (u_6 : Unit) => [(x0, .inr (4, [.ref h0, .ref k0, .ref sA, .int (nI nx), .int (nI sl), .int (uB (-1000002) rb), .int (uN (-1000002) rn), .int (uF (-1000002) rf), .ref t0, .ref w0, .ref s0])), (h0, .inr (0, [.int (nI n), .int (nI S), .ref h1, .ref h2])), (h1, .inl (cI, 50, .inl F)), (h2, .inl (cI, 6, .inl G)), (w0, .inr (2, [.int wh, .int how, .ref w1, .ref w2])), (w1, .inl (cI, 11, .inl a)), (w2, .inl (cI, 11, .inl b))]) rfl rfl (by decide) (by decide) (by decide) (fun _ => rfl) (fun r_6 u_6 H locs q_6 hP hD hS => ?_)
    obtain rfl : r_6 = -1000002 := q_6
    rw [show (.int (uB (-1000002) rb) : Value) = .int (bR (inR w 0 2) rb) from congrArg Value.int ((uB_B rb).trans (bR_f (by first | assumption | exact and_f1 (by assumption) | exact and_f2 (by assumption))))] at hP hD
    have hP : va_P D vwCl [(x0, .inr (4, [.ref h0, .ref k0, .ref sA, .int (nI nx), .int (nI sl), .int (bR (inR w 0 2) rb), .int (uN (-1000002) rn), .int (uF (-1000002) rf), .ref t0, .ref w0, .ref s0])), (h0, .inr (0, [.int (nI n), .int (nI S), .ref h1, .ref h2])), (h1, .inl (cI, 50, .inl F)), (h2, .inl (cI, 6, .inl G)), (w0, .inr (2, [.int wh, .int how, .ref w1, .ref w2])), (w1, .inl (cI, 11, .inl a)), (w2, .inl (cI, 11, .inl b))] H := hP
    have hD : va_D AM [(x0, .inr (4, [.ref h0, .ref k0, .ref sA, .int (nI nx), .int (nI sl), .int (bR (inR w 0 2) rb), .int (uN (-1000002) rn), .int (uF (-1000002) rf), .ref t0, .ref w0, .ref s0])), (h0, .inr (0, [.int (nI n), .int (nI S), .ref h1, .ref h2])), (h1, .inl (cI, 50, .inl F)), (h2, .inl (cI, 6, .inl G)), (w0, .inr (2, [.int wh, .int how, .ref w1, .ref w2])), (w1, .inl (cI, 11, .inl a)), (w2, .inl (cI, 11, .inl b))] := hD
    rw [show (.int (uN (-1000002) rn) : Value) = .int rn from congrArg Value.int (uN_B rn)] at hP hD
    have hP : va_P D vwCl [(x0, .inr (4, [.ref h0, .ref k0, .ref sA, .int (nI nx), .int (nI sl), .int (bR (inR w 0 2) rb), .int rn, .int (uF (-1000002) rf), .ref t0, .ref w0, .ref s0])), (h0, .inr (0, [.int (nI n), .int (nI S), .ref h1, .ref h2])), (h1, .inl (cI, 50, .inl F)), (h2, .inl (cI, 6, .inl G)), (w0, .inr (2, [.int wh, .int how, .ref w1, .ref w2])), (w1, .inl (cI, 11, .inl a)), (w2, .inl (cI, 11, .inl b))] H := hP
    have hD : va_D AM [(x0, .inr (4, [.ref h0, .ref k0, .ref sA, .int (nI nx), .int (nI sl), .int (bR (inR w 0 2) rb), .int rn, .int (uF (-1000002) rf), .ref t0, .ref w0, .ref s0])), (h0, .inr (0, [.int (nI n), .int (nI S), .ref h1, .ref h2])), (h1, .inl (cI, 50, .inl F)), (h2, .inl (cI, 6, .inl G)), (w0, .inr (2, [.int wh, .int how, .ref w1, .ref w2])), (w1, .inl (cI, 11, .inl a)), (w2, .inl (cI, 11, .inl b))] := hD
    rw [show (.int (uF (-1000002) rf) : Value) = .int rf from congrArg Value.int (uF_B rf)] at hP hD
    have hP : va_P D vwCl [(x0, .inr (4, [.ref h0, .ref k0, .ref sA, .int (nI nx), .int (nI sl), .int (bR (inR w 0 2) rb), .int rn, .int rf, .ref t0, .ref w0, .ref s0])), (h0, .inr (0, [.int (nI n), .int (nI S), .ref h1, .ref h2])), (h1, .inl (cI, 50, .inl F)), (h2, .inl (cI, 6, .inl G)), (w0, .inr (2, [.int wh, .int how, .ref w1, .ref w2])), (w1, .inl (cI, 11, .inl a)), (w2, .inl (cI, 11, .inl b))] H := hP
    have hD : va_D AM [(x0, .inr (4, [.ref h0, .ref k0, .ref sA, .int (nI nx), .int (nI sl), .int (bR (inR w 0 2) rb), .int rn, .int rf, .ref t0, .ref w0, .ref s0])), (h0, .inr (0, [.int (nI n), .int (nI S), .ref h1, .ref h2])), (h1, .inl (cI, 50, .inl F)), (h2, .inl (cI, 6, .inl G)), (w0, .inr (2, [.int wh, .int how, .ref w1, .ref w2])), (w1, .inl (cI, 11, .inl a)), (w2, .inl (cI, 11, .inl b))] := hD
    refine e_i (u := (wh, how, a, b)) hx hb hr hlocks hP hD hS dX4_run_15 ?_ ?_
    · rfl
    · exact rB_f (by first | assumption | exact and_f1 (by assumption) | exact and_f2 (by assumption))
theorem in_X4_fewest_4 : ∀ w ∈ wsX40, w ∈ wsX4_fewest := fun _ h => List.mem_cons_of_mem _ (List.mem_append_left _ (List.mem_append_left _ (List.mem_append_right _ h)))
set_option maxHeartbeats 4000000 in
set_option maxRecDepth 100000 in
theorem c_X4_fewest (l : Launch) (D : va_G) (cI cB cO : ClassId) (sz : Nat) (x0 h0 k0 sA t0 w0 s0 nx sl : Nat) (rb rn rf : Int32) (h1 h2 n : Nat) (P : Int32) (F G : Nat → Int32) (s1 : Nat) (Y : Nat → Int32) (q w : Int32) (hn : n ≤ 10) (hf : okFacts F) : CI l yX4_fewest wsX4_fewest ({ frames := 5, cells := 0, slots := 0, locals := 118 } : Room) D (tyL cI cB cO) [.ref x0, .int q, .int w] [(x0, .inr (4, [.ref h0, .ref k0, .ref sA, .int (nI nx), .int (nI sl), .int rb, .int rn, .int rf, .ref t0, .ref w0, .ref s0])), (h0, .inr (0, [.int (nI n), .int P, .ref h1, .ref h2])), (h1, .inl (cI, 50, .inl F)), (h2, .inl (cI, 6, .inl G)), (s0, .inr (1, [.ref s1])), (s1, .inl (cI, 11, .inl Y))] sz (fun (r : Int32) (_ : Nat → Int32) => r = rB (okFew q w) (fewF F G n q w)) (fun (u : Nat → Int32) => [(x0, .inr (4, [.ref h0, .ref k0, .ref sA, .int (nI nx), .int (nI sl), .int (bR (okFew q w) rb), .int rn, .int rf, .ref t0, .ref w0, .ref s0])), (h0, .inr (0, [.int (nI n), .int P, .ref h1, .ref h2])), (h1, .inl (cI, 50, .inl F)), (h2, .inl (cI, 6, .inl G)), (s0, .inr (1, [.ref s1])), (s1, .inl (cI, 11, .inl u))]) 0 0 := by
  refine ct_of (cc := cX4_fewest) (maxL := 4) (ret := some .int) (own := RX4) (Qc := QI D (fun (r : Int32) (_ : Nat → Int32) => r = rB (okFew q w) (fewF F G n q w)) (fun (u : Nat → Int32) => [(x0, .inr (4, [.ref h0, .ref k0, .ref sA, .int (nI nx), .int (nI sl), .int (bR (okFew q w) rb), .int rn, .int rf, .ref t0, .ref w0, .ref s0])), (h0, .inr (0, [.int (nI n), .int P, .ref h1, .ref h2])), (h1, .inl (cI, 50, .inl F)), (h2, .inl (cI, 6, .inl G)), (s0, .inr (1, [.ref s1])), (s1, .inl (cI, 11, .inl u))])) (by decide) rfl rfl (Nat.le_of_ble_eq_true rfl) ?_
  intro pM eM sM mM below meth cM AM ls H locs hx hb hr hts hown hlocks hml hin hK hP hD hS hA hSt hl
  have hl : lv_has ls 4 [(0, .ref x0), (1, .int q), (2, .int w)] := hl
  refine lv_iload_n hx hb dX4_fewest_0 rfl (lv_at hl 1 rfl) ?_
  refine lv_iconst (v := 1) hx hb dX4_fewest_1 (by decide) ?_
  refine lv_bipush (v := 30) hx hb dX4_fewest_2 (by decide) ?_
  refine k_i (va_runS (As := [.int q, .int 1, .int 30]) (rest := []) ⟨hx, hb, hml, hown, hts⟩ (c_X4_within l D cI cB cO H.size q 1 30 ) (va_cwS 3 hts gX4_fewest_X4_within rfl rfl rfl (by decide +kernel) ⟨Nat.le_of_ble_eq_true rfl, Nat.le_of_ble_eq_true rfl⟩) (preS_of hK hP hD hS hA hSt [] (by decide) rfl) rfl rfl hl.1 rfl (lv_room (Nat.le_of_ble_eq_true rfl)) dX4_fewest_4 ⟨Nat.le_of_ble_eq_true rfl, Nat.le_of_ble_eq_true rfl⟩) hP hD hS hA [] [0, 1, 2, 3, 4, 5] [0, 1, 2, 3, 4, 5] [(x0, .inr (4, [.ref h0, .ref k0, .ref sA, .int (nI nx), .int (nI sl), .int rb, .int rn, .int rf, .ref t0, .ref w0, .ref s0])), (h0, .inr (0, [.int (nI n), .int P, .ref h1, .ref h2])), (h1, .inl (cI, 50, .inl F)), (h2, .inl (cI, 6, .inl G)), (s0, .inr (1, [.ref s1])), (s1, .inl (cI, 11, .inl Y))] (fun (u_1 : Unit) => [(x0, .inr (4, [.ref h0, .ref k0, .ref sA, .int (nI nx), .int (nI sl), .int rb, .int rn, .int rf, .ref t0, .ref w0, .ref s0])), (h0, .inr (0, [.int (nI n), .int P, .ref h1, .ref h2])), (h1, .inl (cI, 50, .inl F)), (h2, .inl (cI, 6, .inl G)), (s0, .inr (1, [.ref s1])), (s1, .inl (cI, 11, .inl Y))]) rfl rfl (by decide) (by decide) (by decide) (fun _ => rfl) (fun r_1 u_1 H locs q_1 hP hD hS => ?_)
  obtain rfl : r_1 = bI (inR q 1 30) := q_1
  refine lv_if_eq (tgt := 19) hx hb dX4_fewest_7 (by decide) (fun c_2 => ?_) (fun c_2 => ?_)
  · have c_2 := bI_0.mp c_2
    refine lv_aload_n hx hb dX4_fewest_19 rfl (lv_at hl 0 rfl) ?_
    refine lv_ldc (v := -1000002) hx hb hown (hts (.constant RX4 118 (-1000002)) (List.mem_of_getElem? (i := 1) (by decide +kernel))) dX4_fewest_20 ?_
    refine k_i (va_runV (As := [.int (-1000002)]) (rest := []) ⟨hx, hb, hml, hown, hts⟩ (c_X4_counted l D cI cB cO H.size x0 h0 k0 sA t0 w0 s0 nx sl rb rn rf (-1000002) ) (cwV 1 hts gX4_fewest_X4_counted rfl rfl rfl (by decide +kernel) ⟨Nat.le_of_ble_eq_true rfl, Nat.le_of_ble_eq_true rfl⟩) (preV_of hK hP hD hS hA hSt [0] (by decide) rfl 0 (ci := 4) rfl rfl) rfl rfl hl.1 rfl (lv_room (Nat.le_of_ble_eq_true rfl)) dX4_fewest_22 ⟨Nat.le_of_ble_eq_true rfl, Nat.le_of_ble_eq_true rfl⟩) hP hD hS hA [0] [1, 2, 3, 4, 5] [5, 0, 1, 2, 3, 4] [(h0, .inr (0, [.int (nI n), .int P, .ref h1, .ref h2])), (h1, .inl (cI, 50, .inl F)), (h2, .inl (cI, 6, .inl G)), (s0, .inr (1, [.ref s1])), (s1, .inl (cI, 11, .inl Y))] (fun (u_3 : Unit) => [(x0, .inr (4, [.ref h0, .ref k0, .ref sA, .int (nI nx), .int (nI sl), .int (uB (-1000002) rb), .int (uN (-1000002) rn), .int (uF (-1000002) rf), .ref t0, .ref w0, .ref s0])), (h0, .inr (0, [.int (nI n), .int P, .ref h1, .ref h2])), (h1, .inl (cI, 50, .inl F)), (h2, .inl (cI, 6, .inl G)), (s0, .inr (1, [.ref s1])), (s1, .inl (cI, 11, .inl Y))]) rfl rfl (by decide) (by decide) (by decide) (fun _ => rfl) (fun r_3 u_3 H locs q_3 hP hD hS => ?_)
    obtain rfl : r_3 = -1000002 := q_3
    rw [show (.int (uB (-1000002) rb) : Value) = .int (bR (okFew q w) rb) from congrArg Value.int ((uB_B rb).trans (bR_f (by first | assumption | exact and_f1 (by assumption) | exact and_f2 (by assumption))))] at hP hD
    have hP : va_P D vwCl [(x0, .inr (4, [.ref h0, .ref k0, .ref sA, .int (nI nx), .int (nI sl), .int (bR (okFew q w) rb), .int (uN (-1000002) rn), .int (uF (-1000002) rf), .ref t0, .ref w0, .ref s0])), (h0, .inr (0, [.int (nI n), .int P, .ref h1, .ref h2])), (h1, .inl (cI, 50, .inl F)), (h2, .inl (cI, 6, .inl G)), (s0, .inr (1, [.ref s1])), (s1, .inl (cI, 11, .inl Y))] H := hP
    have hD : va_D AM [(x0, .inr (4, [.ref h0, .ref k0, .ref sA, .int (nI nx), .int (nI sl), .int (bR (okFew q w) rb), .int (uN (-1000002) rn), .int (uF (-1000002) rf), .ref t0, .ref w0, .ref s0])), (h0, .inr (0, [.int (nI n), .int P, .ref h1, .ref h2])), (h1, .inl (cI, 50, .inl F)), (h2, .inl (cI, 6, .inl G)), (s0, .inr (1, [.ref s1])), (s1, .inl (cI, 11, .inl Y))] := hD
    rw [show (.int (uN (-1000002) rn) : Value) = .int rn from congrArg Value.int (uN_B rn)] at hP hD
    have hP : va_P D vwCl [(x0, .inr (4, [.ref h0, .ref k0, .ref sA, .int (nI nx), .int (nI sl), .int (bR (okFew q w) rb), .int rn, .int (uF (-1000002) rf), .ref t0, .ref w0, .ref s0])), (h0, .inr (0, [.int (nI n), .int P, .ref h1, .ref h2])), (h1, .inl (cI, 50, .inl F)), (h2, .inl (cI, 6, .inl G)), (s0, .inr (1, [.ref s1])), (s1, .inl (cI, 11, .inl Y))] H := hP
    have hD : va_D AM [(x0, .inr (4, [.ref h0, .ref k0, .ref sA, .int (nI nx), .int (nI sl), .int (bR (okFew q w) rb), .int rn, .int (uF (-1000002) rf), .ref t0, .ref w0, .ref s0])), (h0, .inr (0, [.int (nI n), .int P, .ref h1, .ref h2])), (h1, .inl (cI, 50, .inl F)), (h2, .inl (cI, 6, .inl G)), (s0, .inr (1, [.ref s1])), (s1, .inl (cI, 11, .inl Y))] := hD
    rw [show (.int (uF (-1000002) rf) : Value) = .int rf from congrArg Value.int (uF_B rf)] at hP hD
    have hP : va_P D vwCl [(x0, .inr (4, [.ref h0, .ref k0, .ref sA, .int (nI nx), .int (nI sl), .int (bR (okFew q w) rb), .int rn, .int rf, .ref t0, .ref w0, .ref s0])), (h0, .inr (0, [.int (nI n), .int P, .ref h1, .ref h2])), (h1, .inl (cI, 50, .inl F)), (h2, .inl (cI, 6, .inl G)), (s0, .inr (1, [.ref s1])), (s1, .inl (cI, 11, .inl Y))] H := hP
    have hD : va_D AM [(x0, .inr (4, [.ref h0, .ref k0, .ref sA, .int (nI nx), .int (nI sl), .int (bR (okFew q w) rb), .int rn, .int rf, .ref t0, .ref w0, .ref s0])), (h0, .inr (0, [.int (nI n), .int P, .ref h1, .ref h2])), (h1, .inl (cI, 50, .inl F)), (h2, .inl (cI, 6, .inl G)), (s0, .inr (1, [.ref s1])), (s1, .inl (cI, 11, .inl Y))] := hD
    refine e_i (u := Y) hx hb hr hlocks hP hD hS dX4_fewest_25 ?_ ?_
    · rfl
    · exact rB_f (by first | assumption | exact and_f1 (by assumption) | exact and_f2 (by assumption))
  · have c_2 := bI_n0.mp c_2
    refine lv_iload_n hx hb dX4_fewest_10 rfl (lv_at hl 2 rfl) ?_
    refine lv_iconst (v := 0) hx hb dX4_fewest_11 (by decide) ?_
    refine lv_iconst (v := 1) hx hb dX4_fewest_12 (by decide) ?_
    refine k_i (va_runS (As := [.int w, .int 0, .int 1]) (rest := []) ⟨hx, hb, hml, hown, hts⟩ (c_X4_within l D cI cB cO H.size w 0 1 ) (va_cwS 3 hts gX4_fewest_X4_within rfl rfl rfl (by decide +kernel) ⟨Nat.le_of_ble_eq_true rfl, Nat.le_of_ble_eq_true rfl⟩) (preS_of hK hP hD hS hA hSt [] (by decide) rfl) rfl rfl hl.1 rfl (lv_room (Nat.le_of_ble_eq_true rfl)) dX4_fewest_13 ⟨Nat.le_of_ble_eq_true rfl, Nat.le_of_ble_eq_true rfl⟩) hP hD hS hA [] [0, 1, 2, 3, 4, 5] [0, 1, 2, 3, 4, 5] [(x0, .inr (4, [.ref h0, .ref k0, .ref sA, .int (nI nx), .int (nI sl), .int rb, .int rn, .int rf, .ref t0, .ref w0, .ref s0])), (h0, .inr (0, [.int (nI n), .int P, .ref h1, .ref h2])), (h1, .inl (cI, 50, .inl F)), (h2, .inl (cI, 6, .inl G)), (s0, .inr (1, [.ref s1])), (s1, .inl (cI, 11, .inl Y))] (fun (u_4 : Unit) => [(x0, .inr (4, [.ref h0, .ref k0, .ref sA, .int (nI nx), .int (nI sl), .int rb, .int rn, .int rf, .ref t0, .ref w0, .ref s0])), (h0, .inr (0, [.int (nI n), .int P, .ref h1, .ref h2])), (h1, .inl (cI, 50, .inl F)), (h2, .inl (cI, 6, .inl G)), (s0, .inr (1, [.ref s1])), (s1, .inl (cI, 11, .inl Y))]) rfl rfl (by decide) (by decide) (by decide) (fun _ => rfl) (fun r_4 u_4 H locs q_4 hP hD hS => ?_)
    obtain rfl : r_4 = bI (inR w 0 1) := q_4
    refine lv_if_ne (tgt := 26) hx hb dX4_fewest_16 (by decide) (fun c_5 => ?_) (fun c_5 => ?_)
    · have c_5 := bI_n0.mp c_5
      refine lv_aload_n hx hb dX4_fewest_26 rfl (lv_at hl 0 rfl) ?_
      refine va_get (D := D) (ci := 4) (v := .ref s0) (C := RX4) (T := TX4) (N := 11) hx hb hts in_X4_fewest_4 hown hK hP 0 rfl rfl 10 (by decide) (hts (.fieldLink RX4 56 "HoseSpans" "search" "LHoseSpans$PumpSearch;") (List.mem_of_getElem? (i := 2) (by decide +kernel))) (fun _ h9 => h9) rfl dX4_fewest_27 ?_
      refine lv_aload_n hx hb dX4_fewest_30 rfl (lv_at hl 0 rfl) ?_
      refine va_get (D := D) (ci := 4) (v := .ref h0) (C := RX4) (T := TX4) (N := 11) hx hb hts in_X4_fewest_4 hown hK hP 0 rfl rfl 0 (by decide) (hts (.fieldLink RX4 12 "HoseSpans" "line" "LHoseSpans$Line;") (List.mem_of_getElem? (i := 3) (by decide +kernel))) (fun _ h9 => h9) rfl dX4_fewest_31 ?_
      refine lv_iload_n hx hb dX4_fewest_34 rfl (lv_at hl 1 rfl) ?_
      refine k_i (va_runV (As := [.ref h0, .int q]) (rest := []) ⟨hx, hb, hml, hown, hts⟩ (c_X1_bestSet l D cI cB cO H.size s0 s1 Y h0 h1 h2 n P F G q (by first | assumption | omega | exact okFacts.sort (by assumption) (by omega)) (by first | assumption | omega | exact okFacts.sort (by assumption) (by omega))) (cwV 2 hts gX4_fewest_X1_bestSet rfl rfl rfl (by decide +kernel) ⟨Nat.le_of_ble_eq_true rfl, Nat.le_of_ble_eq_true rfl⟩) (preV_of hK hP hD hS hA hSt [4, 5, 1, 2, 3] (by decide) rfl 4 (ci := 1) rfl rfl) rfl rfl hl.1 rfl (lv_room (Nat.le_of_ble_eq_true rfl)) dX4_fewest_35 ⟨Nat.le_of_ble_eq_true rfl, Nat.le_of_ble_eq_true rfl⟩) hP hD hS hA [4, 5, 1, 2, 3] [0] [0, 3, 4, 5, 1, 2] [(x0, .inr (4, [.ref h0, .ref k0, .ref sA, .int (nI nx), .int (nI sl), .int rb, .int rn, .int rf, .ref t0, .ref w0, .ref s0]))] (fun (u_6 : Unit) => [(x0, .inr (4, [.ref h0, .ref k0, .ref sA, .int (nI nx), .int (nI sl), .int rb, .int rn, .int rf, .ref t0, .ref w0, .ref s0])), (h0, .inr (0, [.int (nI n), .int P, .ref h1, .ref h2])), (h1, .inl (cI, 50, .inl F)), (h2, .inl (cI, 6, .inl G)), (s0, .inr (1, [.ref s1])), (s1, .inl (cI, 11, .inl (bsIter F G n q n)))]) rfl rfl (by decide) (by decide) (by decide) (fun _ => rfl) (fun r_6 u_6 H locs q_6 hP hD hS => ?_)
      obtain rfl : r_6 = bestF F G n q := q_6
      refine lv_istore_n (lv' := [(3, .int (bestF F G n q)), (0, .ref x0), (1, .int q), (2, .int w)]) hx hb dX4_fewest_38 rfl hl (by decide) rfl (fun ls hl => ?_)
      refine lv_iload_n hx hb dX4_fewest_39 rfl (lv_at hl 0 rfl) ?_
      refine lv_ldc (v := 1073741824) hx hb hown (hts (.constant RX4 96 1073741824) (List.mem_of_getElem? (i := 4) (by decide +kernel))) dX4_fewest_40 ?_
      refine lv_icmp_ne (tgt := 48) hx hb dX4_fewest_42 (by decide) (fun c_7 => ?_) (fun c_7 => ?_)
      · refine lv_iload_n hx hb dX4_fewest_48 rfl (lv_at hl 3 rfl) ?_
        refine lv_if_ne (tgt := 59) hx hb dX4_fewest_49 (by decide) (fun c_8 => ?_) (fun c_8 => ?_)
        · refine lv_iload_n hx hb dX4_fewest_59 rfl (lv_at hl 0 rfl) ?_
          refine k_i (va_runS (As := [.int (bestF F G n q)]) (rest := []) ⟨hx, hb, hml, hown, hts⟩ (c_X4_bitsOf l D cI cB cO H.size (bestF F G n q) ) (va_cwS 1 hts gX4_fewest_X4_bitsOf rfl rfl rfl (by decide +kernel) ⟨Nat.le_of_ble_eq_true rfl, Nat.le_of_ble_eq_true rfl⟩) (preS_of hK hP hD hS hA hSt [] (by decide) rfl) rfl rfl hl.1 rfl (lv_room (Nat.le_of_ble_eq_true rfl)) dX4_fewest_60 ⟨Nat.le_of_ble_eq_true rfl, Nat.le_of_ble_eq_true rfl⟩) hP hD hS hA [] [0, 1, 2, 3, 4, 5] [0, 1, 2, 3, 4, 5] [(x0, .inr (4, [.ref h0, .ref k0, .ref sA, .int (nI nx), .int (nI sl), .int rb, .int rn, .int rf, .ref t0, .ref w0, .ref s0])), (h0, .inr (0, [.int (nI n), .int P, .ref h1, .ref h2])), (h1, .inl (cI, 50, .inl F)), (h2, .inl (cI, 6, .inl G)), (s0, .inr (1, [.ref s1])), (s1, .inl (cI, 11, .inl (bsIter F G n q n)))] (fun (u_9 : Unit) => [(x0, .inr (4, [.ref h0, .ref k0, .ref sA, .int (nI nx), .int (nI sl), .int rb, .int rn, .int rf, .ref t0, .ref w0, .ref s0])), (h0, .inr (0, [.int (nI n), .int P, .ref h1, .ref h2])), (h1, .inl (cI, 50, .inl F)), (h2, .inl (cI, 6, .inl G)), (s0, .inr (1, [.ref s1])), (s1, .inl (cI, 11, .inl (bsIter F G n q n)))]) rfl rfl (by decide) (by decide) (by decide) (fun _ => rfl) (fun r_9 u_9 H locs q_9 hP hD hS => ?_)
          obtain rfl : r_9 = btI (bestF F G n q) := q_9
          rw [show (.int rb : Value) = .int (bR (okFew q w) rb) from congrArg Value.int (bR_t (by first | assumption | exact and_t2 (by assumption) (by assumption)))] at hP hD
          have hP : va_P D vwCl [(x0, .inr (4, [.ref h0, .ref k0, .ref sA, .int (nI nx), .int (nI sl), .int (bR (okFew q w) rb), .int rn, .int rf, .ref t0, .ref w0, .ref s0])), (h0, .inr (0, [.int (nI n), .int P, .ref h1, .ref h2])), (h1, .inl (cI, 50, .inl F)), (h2, .inl (cI, 6, .inl G)), (s0, .inr (1, [.ref s1])), (s1, .inl (cI, 11, .inl (bsIter F G n q n)))] H := hP
          have hD : va_D AM [(x0, .inr (4, [.ref h0, .ref k0, .ref sA, .int (nI nx), .int (nI sl), .int (bR (okFew q w) rb), .int rn, .int rf, .ref t0, .ref w0, .ref s0])), (h0, .inr (0, [.int (nI n), .int P, .ref h1, .ref h2])), (h1, .inl (cI, 50, .inl F)), (h2, .inl (cI, 6, .inl G)), (s0, .inr (1, [.ref s1])), (s1, .inl (cI, 11, .inl (bsIter F G n q n)))] := hD
          refine e_i (u := bsIter F G n q n) hx hb hr hlocks hP hD hS dX4_fewest_63 ?_ ?_
          · rfl
          · first | exact rB_t2 (by first | assumption | exact and_t2 (by assumption) (by assumption)) (by unfold fewF; rw [if_neg (by assumption), if_pos (by assumption)]) | exact rB_t2 (by first | assumption | exact and_t2 (by assumption) (by assumption)) (by unfold fewF; rw [if_neg (by assumption), if_neg (by assumption)])
        · refine lv_iload_n hx hb dX4_fewest_52 rfl (lv_at hl 0 rfl) ?_
          refine k_i (va_runS (As := [.int (bestF F G n q)]) (rest := []) ⟨hx, hb, hml, hown, hts⟩ (c_X4_sizeOf l D cI cB cO H.size (bestF F G n q) ) (va_cwS 1 hts gX4_fewest_X4_sizeOf rfl rfl rfl (by decide +kernel) ⟨Nat.le_of_ble_eq_true rfl, Nat.le_of_ble_eq_true rfl⟩) (preS_of hK hP hD hS hA hSt [] (by decide) rfl) rfl rfl hl.1 rfl (lv_room (Nat.le_of_ble_eq_true rfl)) dX4_fewest_53 ⟨Nat.le_of_ble_eq_true rfl, Nat.le_of_ble_eq_true rfl⟩) hP hD hS hA [] [0, 1, 2, 3, 4, 5] [0, 1, 2, 3, 4, 5] [(x0, .inr (4, [.ref h0, .ref k0, .ref sA, .int (nI nx), .int (nI sl), .int rb, .int rn, .int rf, .ref t0, .ref w0, .ref s0])), (h0, .inr (0, [.int (nI n), .int P, .ref h1, .ref h2])), (h1, .inl (cI, 50, .inl F)), (h2, .inl (cI, 6, .inl G)), (s0, .inr (1, [.ref s1])), (s1, .inl (cI, 11, .inl (bsIter F G n q n)))] (fun (u_10 : Unit) => [(x0, .inr (4, [.ref h0, .ref k0, .ref sA, .int (nI nx), .int (nI sl), .int rb, .int rn, .int rf, .ref t0, .ref w0, .ref s0])), (h0, .inr (0, [.int (nI n), .int P, .ref h1, .ref h2])), (h1, .inl (cI, 50, .inl F)), (h2, .inl (cI, 6, .inl G)), (s0, .inr (1, [.ref s1])), (s1, .inl (cI, 11, .inl (bsIter F G n q n)))]) rfl rfl (by decide) (by decide) (by decide) (fun _ => rfl) (fun r_10 u_10 H locs q_10 hP hD hS => ?_)
          obtain rfl : r_10 = szI (bestF F G n q) := q_10
          refine lv_goto (tgt := 63) hx hb dX4_fewest_56 (by decide) ?_
          rw [show (.int rb : Value) = .int (bR (okFew q w) rb) from congrArg Value.int (bR_t (by first | assumption | exact and_t2 (by assumption) (by assumption)))] at hP hD
          have hP : va_P D vwCl [(x0, .inr (4, [.ref h0, .ref k0, .ref sA, .int (nI nx), .int (nI sl), .int (bR (okFew q w) rb), .int rn, .int rf, .ref t0, .ref w0, .ref s0])), (h0, .inr (0, [.int (nI n), .int P, .ref h1, .ref h2])), (h1, .inl (cI, 50, .inl F)), (h2, .inl (cI, 6, .inl G)), (s0, .inr (1, [.ref s1])), (s1, .inl (cI, 11, .inl (bsIter F G n q n)))] H := hP
          have hD : va_D AM [(x0, .inr (4, [.ref h0, .ref k0, .ref sA, .int (nI nx), .int (nI sl), .int (bR (okFew q w) rb), .int rn, .int rf, .ref t0, .ref w0, .ref s0])), (h0, .inr (0, [.int (nI n), .int P, .ref h1, .ref h2])), (h1, .inl (cI, 50, .inl F)), (h2, .inl (cI, 6, .inl G)), (s0, .inr (1, [.ref s1])), (s1, .inl (cI, 11, .inl (bsIter F G n q n)))] := hD
          refine e_i (u := bsIter F G n q n) hx hb hr hlocks hP hD hS dX4_fewest_63 ?_ ?_
          · rfl
          · first | exact rB_t2 (by first | assumption | exact and_t2 (by assumption) (by assumption)) (by unfold fewF; rw [if_neg (by assumption), if_pos (by assumption)]) | exact rB_t2 (by first | assumption | exact and_t2 (by assumption) (by assumption)) (by unfold fewF; rw [if_neg (by assumption), if_neg (by assumption)])
      · refine lv_ldc (v := -1000001) hx hb hown (hts (.constant RX4 147 (-1000001)) (List.mem_of_getElem? (i := 5) (by decide +kernel))) dX4_fewest_45 ?_
        rw [show (.int rb : Value) = .int (bR (okFew q w) rb) from congrArg Value.int (bR_t (by first | assumption | exact and_t2 (by assumption) (by assumption)))] at hP hD
        have hP : va_P D vwCl [(x0, .inr (4, [.ref h0, .ref k0, .ref sA, .int (nI nx), .int (nI sl), .int (bR (okFew q w) rb), .int rn, .int rf, .ref t0, .ref w0, .ref s0])), (h0, .inr (0, [.int (nI n), .int P, .ref h1, .ref h2])), (h1, .inl (cI, 50, .inl F)), (h2, .inl (cI, 6, .inl G)), (s0, .inr (1, [.ref s1])), (s1, .inl (cI, 11, .inl (bsIter F G n q n)))] H := hP
        have hD : va_D AM [(x0, .inr (4, [.ref h0, .ref k0, .ref sA, .int (nI nx), .int (nI sl), .int (bR (okFew q w) rb), .int rn, .int rf, .ref t0, .ref w0, .ref s0])), (h0, .inr (0, [.int (nI n), .int P, .ref h1, .ref h2])), (h1, .inl (cI, 50, .inl F)), (h2, .inl (cI, 6, .inl G)), (s0, .inr (1, [.ref s1])), (s1, .inl (cI, 11, .inl (bsIter F G n q n)))] := hD
        refine e_i (u := bsIter F G n q n) hx hb hr hlocks hP hD hS dX4_fewest_47 ?_ ?_
        · rfl
        · exact rB_t2 (by first | assumption | exact and_t2 (by assumption) (by assumption)) (by unfold fewF; rw [if_pos (by assumption)])
    · have c_5 := bI_0.mp c_5
      refine lv_aload_n hx hb dX4_fewest_19 rfl (lv_at hl 0 rfl) ?_
      refine lv_ldc (v := -1000002) hx hb hown (hts (.constant RX4 118 (-1000002)) (List.mem_of_getElem? (i := 1) (by decide +kernel))) dX4_fewest_20 ?_
      refine k_i (va_runV (As := [.int (-1000002)]) (rest := []) ⟨hx, hb, hml, hown, hts⟩ (c_X4_counted l D cI cB cO H.size x0 h0 k0 sA t0 w0 s0 nx sl rb rn rf (-1000002) ) (cwV 1 hts gX4_fewest_X4_counted rfl rfl rfl (by decide +kernel) ⟨Nat.le_of_ble_eq_true rfl, Nat.le_of_ble_eq_true rfl⟩) (preV_of hK hP hD hS hA hSt [0] (by decide) rfl 0 (ci := 4) rfl rfl) rfl rfl hl.1 rfl (lv_room (Nat.le_of_ble_eq_true rfl)) dX4_fewest_22 ⟨Nat.le_of_ble_eq_true rfl, Nat.le_of_ble_eq_true rfl⟩) hP hD hS hA [0] [1, 2, 3, 4, 5] [5, 0, 1, 2, 3, 4] [(h0, .inr (0, [.int (nI n), .int P, .ref h1, .ref h2])), (h1, .inl (cI, 50, .inl F)), (h2, .inl (cI, 6, .inl G)), (s0, .inr (1, [.ref s1])), (s1, .inl (cI, 11, .inl Y))] (fun (u_11 : Unit) => [(x0, .inr (4, [.ref h0, .ref k0, .ref sA, .int (nI nx), .int (nI sl), .int (uB (-1000002) rb), .int (uN (-1000002) rn), .int (uF (-1000002) rf), .ref t0, .ref w0, .ref s0])), (h0, .inr (0, [.int (nI n), .int P, .ref h1, .ref h2])), (h1, .inl (cI, 50, .inl F)), (h2, .inl (cI, 6, .inl G)), (s0, .inr (1, [.ref s1])), (s1, .inl (cI, 11, .inl Y))]) rfl rfl (by decide) (by decide) (by decide) (fun _ => rfl) (fun r_11 u_11 H locs q_11 hP hD hS => ?_)
      obtain rfl : r_11 = -1000002 := q_11
      rw [show (.int (uB (-1000002) rb) : Value) = .int (bR (okFew q w) rb) from congrArg Value.int ((uB_B rb).trans (bR_f (by first | assumption | exact and_f1 (by assumption) | exact and_f2 (by assumption))))] at hP hD
      have hP : va_P D vwCl [(x0, .inr (4, [.ref h0, .ref k0, .ref sA, .int (nI nx), .int (nI sl), .int (bR (okFew q w) rb), .int (uN (-1000002) rn), .int (uF (-1000002) rf), .ref t0, .ref w0, .ref s0])), (h0, .inr (0, [.int (nI n), .int P, .ref h1, .ref h2])), (h1, .inl (cI, 50, .inl F)), (h2, .inl (cI, 6, .inl G)), (s0, .inr (1, [.ref s1])), (s1, .inl (cI, 11, .inl Y))] H := hP
      have hD : va_D AM [(x0, .inr (4, [.ref h0, .ref k0, .ref sA, .int (nI nx), .int (nI sl), .int (bR (okFew q w) rb), .int (uN (-1000002) rn), .int (uF (-1000002) rf), .ref t0, .ref w0, .ref s0])), (h0, .inr (0, [.int (nI n), .int P, .ref h1, .ref h2])), (h1, .inl (cI, 50, .inl F)), (h2, .inl (cI, 6, .inl G)), (s0, .inr (1, [.ref s1])), (s1, .inl (cI, 11, .inl Y))] := hD
      rw [show (.int (uN (-1000002) rn) : Value) = .int rn from congrArg Value.int (uN_B rn)] at hP hD
      have hP : va_P D vwCl [(x0, .inr (4, [.ref h0, .ref k0, .ref sA, .int (nI nx), .int (nI sl), .int (bR (okFew q w) rb), .int rn, .int (uF (-1000002) rf), .ref t0, .ref w0, .ref s0])), (h0, .inr (0, [.int (nI n), .int P, .ref h1, .ref h2])), (h1, .inl (cI, 50, .inl F)), (h2, .inl (cI, 6, .inl G)), (s0, .inr (1, [.ref s1])), (s1, .inl (cI, 11, .inl Y))] H := hP
      have hD : va_D AM [(x0, .inr (4, [.ref h0, .ref k0, .ref sA, .int (nI nx), .int (nI sl), .int (bR (okFew q w) rb), .int rn, .int (uF (-1000002) rf), .ref t0, .ref w0, .ref s0])), (h0, .inr (0, [.int (nI n), .int P, .ref h1, .ref h2])), (h1, .inl (cI, 50, .inl F)), (h2, .inl (cI, 6, .inl G)), (s0, .inr (1, [.ref s1])), (s1, .inl (cI, 11, .inl Y))] := hD
      rw [show (.int (uF (-1000002) rf) : Value) = .int rf from congrArg Value.int (uF_B rf)] at hP hD
      have hP : va_P D vwCl [(x0, .inr (4, [.ref h0, .ref k0, .ref sA, .int (nI nx), .int (nI sl), .int (bR (okFew q w) rb), .int rn, .int rf, .ref t0, .ref w0, .ref s0])), (h0, .inr (0, [.int (nI n), .int P, .ref h1, .ref h2])), (h1, .inl (cI, 50, .inl F)), (h2, .inl (cI, 6, .inl G)), (s0, .inr (1, [.ref s1])), (s1, .inl (cI, 11, .inl Y))] H := hP
      have hD : va_D AM [(x0, .inr (4, [.ref h0, .ref k0, .ref sA, .int (nI nx), .int (nI sl), .int (bR (okFew q w) rb), .int rn, .int rf, .ref t0, .ref w0, .ref s0])), (h0, .inr (0, [.int (nI n), .int P, .ref h1, .ref h2])), (h1, .inl (cI, 50, .inl F)), (h2, .inl (cI, 6, .inl G)), (s0, .inr (1, [.ref s1])), (s1, .inl (cI, 11, .inl Y))] := hD
      refine e_i (u := Y) hx hb hr hlocks hP hD hS dX4_fewest_25 ?_ ?_
      · rfl
      · exact rB_f (by first | assumption | exact and_f1 (by assumption) | exact and_f2 (by assumption))
theorem in_X4_most_2 : ∀ w ∈ wsX20, w ∈ wsX4_most := fun _ h => List.mem_cons_of_mem _ (List.mem_append_left _ (List.mem_append_right _ h))
theorem in_X4_most_4 : ∀ w ∈ wsX40, w ∈ wsX4_most := fun _ h => List.mem_cons_of_mem _ (List.mem_append_left _ (List.mem_append_left _ (List.mem_append_right _ h)))
set_option maxHeartbeats 4000000 in
set_option maxRecDepth 100000 in
theorem c_X4_most (l : Launch) (D : va_G) (cI cB cO : ClassId) (sz : Nat) (x0 h0 k0 sA t0 w0 s0 nx sl : Nat) (rb rn rf : Int32) (h1 h2 n S : Nat) (F G : Nat → Int32) (w1 w2 : Nat) (wh how : Int32) (a b : Nat → Int32) (hn : n ≤ 10) (hf : okFacts F) : CI l yX4_most wsX4_most ({ frames := 5, cells := 0, slots := 0, locals := 118 } : Room) D (tyL cI cB cO) [.ref x0] [(x0, .inr (4, [.ref h0, .ref k0, .ref sA, .int (nI nx), .int (nI sl), .int rb, .int rn, .int rf, .ref t0, .ref w0, .ref s0])), (h0, .inr (0, [.int (nI n), .int (nI S), .ref h1, .ref h2])), (h1, .inl (cI, 50, .inl F)), (h2, .inl (cI, 6, .inl G)), (w0, .inr (2, [.int wh, .int how, .ref w1, .ref w2])), (w1, .inl (cI, 11, .inl a)), (w2, .inl (cI, 11, .inl b))] sz (fun (r : Int32) (_ : Rs) => r = mostF F G n S) (fun (u : Rs) => [(x0, .inr (4, [.ref h0, .ref k0, .ref sA, .int (nI nx), .int (nI sl), .int rb, .int rn, .int rf, .ref t0, .ref w0, .ref s0])), (h0, .inr (0, [.int (nI n), .int (nI S), .ref h1, .ref h2])), (h1, .inl (cI, 50, .inl F)), (h2, .inl (cI, 6, .inl G)), (w0, .inr (2, [.int u.1, .int u.2.1, .ref w1, .ref w2])), (w1, .inl (cI, 11, .inl u.2.2.1)), (w2, .inl (cI, 11, .inl u.2.2.2))]) 0 0 := by
  refine ct_of (cc := cX4_most) (maxL := 2) (ret := some .int) (own := RX4) (Qc := QI D (fun (r : Int32) (_ : Rs) => r = mostF F G n S) (fun (u : Rs) => [(x0, .inr (4, [.ref h0, .ref k0, .ref sA, .int (nI nx), .int (nI sl), .int rb, .int rn, .int rf, .ref t0, .ref w0, .ref s0])), (h0, .inr (0, [.int (nI n), .int (nI S), .ref h1, .ref h2])), (h1, .inl (cI, 50, .inl F)), (h2, .inl (cI, 6, .inl G)), (w0, .inr (2, [.int u.1, .int u.2.1, .ref w1, .ref w2])), (w1, .inl (cI, 11, .inl u.2.2.1)), (w2, .inl (cI, 11, .inl u.2.2.2))])) (by decide) rfl rfl (Nat.le_of_ble_eq_true rfl) ?_
  intro pM eM sM mM below meth cM AM ls H locs hx hb hr hts hown hlocks hml hin hK hP hD hS hA hSt hl
  have hl : lv_has ls 2 [(0, .ref x0)] := hl
  refine lv_bipush (v := 30) hx hb dX4_most_0 (by decide) ?_
  refine lv_istore_n (lv' := [(1, .int 30), (0, .ref x0)]) hx hb dX4_most_2 rfl hl (by decide) rfl (fun ls hl => ?_)
  have lp_1 : ∀ (nn : Nat) (k : Nat) (xh xo : Int32) (ya yb : Nat → Int32), (k ≤ 30) → (mostI F G n S k = mostF F G n S) → (k) < nn → ∀ (H : Heap) (locs : List Loc), va_P D vwCl [(x0, .inr (4, [.ref h0, .ref k0, .ref sA, .int (nI nx), .int (nI sl), .int rb, .int rn, .int rf, .ref t0, .ref w0, .ref s0])), (h0, .inr (0, [.int (nI n), .int (nI S), .ref h1, .ref h2])), (h1, .inl (cI, 50, .inl F)), (h2, .inl (cI, 6, .inl G)), (w0, .inr (2, [.int xh, .int xo, .ref w1, .ref w2])), (w1, .inl (cI, 11, .inl ya)), (w2, .inl (cI, 11, .inl yb))] H → va_D AM [(x0, .inr (4, [.ref h0, .ref k0, .ref sA, .int (nI nx), .int (nI sl), .int rb, .int rn, .int rf, .ref t0, .ref w0, .ref s0])), (h0, .inr (0, [.int (nI n), .int (nI S), .ref h1, .ref h2])), (h1, .inl (cI, 50, .inl F)), (h2, .inl (cI, 6, .inl G)), (w0, .inr (2, [.int xh, .int xo, .ref w1, .ref w2])), (w1, .inl (cI, 11, .inl ya)), (w2, .inl (cI, 11, .inl yb))] → va_S AM sM.heap H locs → ∀ (ls : Array Slot), lv_has ls 2 [(0, .ref x0), (1, .int (nI k))] → W pM l eM ({ frames := 5, cells := 0, slots := 0, locals := 118 } : Room) sM mM ([.ref x0] : List Value).toArray below meth cM H locs 0 0 (MQ below (QI D (fun (r : Int32) (_ : Rs) => r = mostF F G n S) (fun (u : Rs) => [(x0, .inr (4, [.ref h0, .ref k0, .ref sA, .int (nI nx), .int (nI sl), .int rb, .int rn, .int rf, .ref t0, .ref w0, .ref s0])), (h0, .inr (0, [.int (nI n), .int (nI S), .ref h1, .ref h2])), (h1, .inl (cI, 50, .inl F)), (h2, .inl (cI, 6, .inl G)), (w0, .inr (2, [.int u.1, .int u.2.1, .ref w1, .ref w2])), (w1, .inl (cI, 11, .inl u.2.2.1)), (w2, .inl (cI, 11, .inl u.2.2.2))]) AM) ([.ref x0] : List Value).toArray sM 0 0 AM) (F0 mM 3 ls []) := by
    intro nn
    induction nn with
    | zero =>
      intro k xh xo ya yb hk hI hm
      exact absurd hm (Nat.not_lt_zero _)
    | succ nn ih_2 =>
      intro k xh xo ya yb hk hI hm H locs hP hD hS ls hl
      refine lv_iload_n hx hb dX4_most_3 rfl (lv_at hl 1 rfl) ?_
      refine lv_iconst (v := 1) hx hb dX4_most_4 (by decide) ?_
      refine lv_icmp_lt (tgt := 38) hx hb dX4_most_5 (by decide) (fun c_3 => ?_) (fun c_3 => ?_)
      · have c_3 : k = 0 := by have h := (nI_ltI (a := k) (b := 1) (by omega) (by decide)).mp c_3; omega
        refine lv_ldc (v := -1000001) hx hb hown (hts (.constant RX4 147 (-1000001)) (List.mem_of_getElem? (i := 4) (by decide +kernel))) dX4_most_38 ?_
        refine e_i (u := (xh, xo, ya, yb)) hx hb hr hlocks hP hD hS dX4_most_40 ?_ ?_
        · rfl
        · rw [‹k = 0›] at hI; exact hI
      · have c_3 : 0 < k := by have h := mt (nI_ltI (a := k) (b := 1) (by omega) (by decide)).mpr c_3; omega
        refine lv_aload_n hx hb dX4_most_8 rfl (lv_at hl 0 rfl) ?_
        refine va_get (D := D) (ci := 4) (v := .ref w0) (C := RX4) (T := TX4) (N := 11) hx hb hts in_X4_most_4 hown hK hP 0 rfl rfl 9 (by decide) (hts (.fieldLink RX4 49 "HoseSpans" "water" "LHoseSpans$Run;") (List.mem_of_getElem? (i := 1) (by decide +kernel))) (fun _ h9 => h9) rfl dX4_most_9 ?_
        refine lv_aload_n hx hb dX4_most_12 rfl (lv_at hl 0 rfl) ?_
        refine va_get (D := D) (ci := 4) (v := .ref h0) (C := RX4) (T := TX4) (N := 11) hx hb hts in_X4_most_4 hown hK hP 0 rfl rfl 0 (by decide) (hts (.fieldLink RX4 12 "HoseSpans" "line" "LHoseSpans$Line;") (List.mem_of_getElem? (i := 2) (by decide +kernel))) (fun _ h9 => h9) rfl dX4_most_13 ?_
        refine lv_iload_n hx hb dX4_most_16 rfl (lv_at hl 1 rfl) ?_
        refine k_v (va_runV (As := [.ref h0, .int (nI k)]) (rest := []) ⟨hx, hb, hml, hown, hts⟩ (c_X2_follow l D cI cB cO H.size w0 w1 w2 xh xo ya yb h0 h1 h2 n S F G (nI k) (by first | assumption | omega | exact okFacts.sort (by assumption) (by omega)) (by first | assumption | omega | exact okFacts.sort (by assumption) (by omega))) (cwV 2 hts gX4_most_X2_follow rfl rfl rfl (by decide +kernel) ⟨Nat.le_of_ble_eq_true rfl, Nat.le_of_ble_eq_true rfl⟩) (preV_of hK hP hD hS hA hSt [4, 5, 6, 1, 2, 3] (by decide) rfl 4 (ci := 2) rfl rfl) rfl rfl hl.1 rfl (lv_room (Nat.le_of_ble_eq_true rfl)) dX4_most_17 ⟨Nat.le_of_ble_eq_true rfl, Nat.le_of_ble_eq_true rfl⟩) hP hD hS hA [4, 5, 6, 1, 2, 3] [0] [0, 4, 5, 6, 1, 2, 3] [(x0, .inr (4, [.ref h0, .ref k0, .ref sA, .int (nI nx), .int (nI sl), .int rb, .int rn, .int rf, .ref t0, .ref w0, .ref s0]))] (fun (u_4 : Rs) => [(x0, .inr (4, [.ref h0, .ref k0, .ref sA, .int (nI nx), .int (nI sl), .int rb, .int rn, .int rf, .ref t0, .ref w0, .ref s0])), (h0, .inr (0, [.int (nI n), .int (nI S), .ref h1, .ref h2])), (h1, .inl (cI, 50, .inl F)), (h2, .inl (cI, 6, .inl G)), (w0, .inr (2, [.int u_4.1, .int u_4.2.1, .ref w1, .ref w2])), (w1, .inl (cI, 11, .inl u_4.2.2.1)), (w2, .inl (cI, 11, .inl u_4.2.2.2))]) rfl rfl (by decide) (by decide) (by decide) (fun _ => rfl) (fun u_4 H locs q_4 hP hD hS => ?_)
        obtain rfl : u_4 = (runF F G n (nI k) S) := q_4
        refine lv_aload_n hx hb dX4_most_20 rfl (lv_at hl 0 rfl) ?_
        refine va_get (D := D) (ci := 4) (v := .ref w0) (C := RX4) (T := TX4) (N := 11) hx hb hts in_X4_most_4 hown hK hP 0 rfl rfl 9 (by decide) (hts (.fieldLink RX4 49 "HoseSpans" "water" "LHoseSpans$Run;") (List.mem_of_getElem? (i := 1) (by decide +kernel))) (fun _ h9 => h9) rfl dX4_most_21 ?_
        refine va_get (D := D) (ci := 2) (v := .int ((runF F G n (nI k) S).2.1)) (C := RX2) (T := TX2) (N := 4) hx hb hts in_X4_most_2 hown hK hP 4 rfl rfl 1 (by decide) (hts (.fieldLink RX4 141 "HoseSpans$Run" "how" "I") (List.mem_of_getElem? (i := 3) (by decide +kernel))) (fun _ h9 => h9) rfl dX4_most_24 ?_
        refine lv_if_ne (tgt := 32) hx hb dX4_most_27 (by decide) (fun c_5 => ?_) (fun c_5 => ?_)
        · refine lv_iinc (v := nI (k - 1)) (lv' := [(1, .int (nI (k - 1))), (0, .ref x0)]) hx hb dX4_most_32 hl (k := 1) rfl (by have h := sb_m1 (p := k) (by omega); exact h) (by decide) rfl (fun ls hl => ?_)
          refine lv_goto (tgt := 3) hx hb dX4_most_35 (by decide) ?_
          have hl9 : lv_has ls 2 [(0, .ref x0), (1, .int (nI (k - 1)))] := lv_sub hl [1, 0] rfl
          exact ih_2 (k - 1) ((runF F G n (nI k) S).1) ((runF F G n (nI k) S).2.1) ((runF F G n (nI k) S).2.2.1) ((runF F G n (nI k) S).2.2.2) (by first | assumption | omega | exact okFacts.sort (by assumption) (by omega)) (by rw [mostI_s (by omega), if_neg (by assumption)] at hI; exact hI) (by omega) H locs hP hD hS ls hl9
        · refine lv_iload_n hx hb dX4_most_30 rfl (lv_at hl 1 rfl) ?_
          refine e_i (u := (runF F G n (nI k) S)) hx hb hr hlocks hP hD hS dX4_most_31 ?_ ?_
          · rfl
          · rw [mostI_s (by omega), if_pos (by assumption)] at hI; exact hI
  have hl9 : lv_has ls 2 [(0, .ref x0), (1, .int 30)] := lv_sub hl [1, 0] rfl
  rw [show ([(0, .ref x0), (1, .int 30)] : List (Nat × Value)) = [(0, .ref x0), (1, .int (nI 30))] from rfl] at hl9
  exact lp_1 ((30) + 1) 30 wh how a b (by first | assumption | omega | exact okFacts.sort (by assumption) (by omega)) (by rfl) (Nat.lt_succ_self _) H locs hP hD hS ls hl9
theorem in_X4_count_0 : ∀ w ∈ wsX00, w ∈ wsX4_count := fun _ h => List.mem_cons_of_mem _ (List.mem_append_right _ h)
theorem in_X4_count_4 : ∀ w ∈ wsX40, w ∈ wsX4_count := fun _ h => List.mem_cons_of_mem _ (List.mem_append_left _ (List.mem_append_right _ h))
set_option maxHeartbeats 4000000 in
set_option maxRecDepth 100000 in
theorem c_X4_count (l : Launch) (D : va_G) (cI cB cO : ClassId) (sz : Nat) (x0 h0 k0 sA t0 w0 s0 nx sl : Nat) (rb rn rf : Int32) (h1 h2 n : Nat) (P : Int32) (F G : Nat → Int32) (w : Int32) (hn : n ≤ 10) (hp : okPumps P) : CI l yX4_count wsX4_count ({ frames := 3, cells := 0, slots := 0, locals := 65 } : Room) D (tyL cI cB cO) [.ref x0, .int w] [(x0, .inr (4, [.ref h0, .ref k0, .ref sA, .int (nI nx), .int (nI sl), .int rb, .int rn, .int rf, .ref t0, .ref w0, .ref s0])), (h0, .inr (0, [.int (nI n), .int P, .ref h1, .ref h2])), (h1, .inl (cI, 50, .inl F)), (h2, .inl (cI, 6, .inl G))] sz (fun (r : Int32) (_ : Unit) => r = rB (inR w 0 10) (cntF (n, P, F, G) w)) (fun (u : Unit) => [(x0, .inr (4, [.ref h0, .ref k0, .ref sA, .int (nI nx), .int (nI sl), .int (bR (inR w 0 10) rb), .int rn, .int rf, .ref t0, .ref w0, .ref s0])), (h0, .inr (0, [.int (nI n), .int P, .ref h1, .ref h2])), (h1, .inl (cI, 50, .inl F)), (h2, .inl (cI, 6, .inl G))]) 0 0 := by
  refine ct_of (cc := cX4_count) (maxL := 2) (ret := some .int) (own := RX4) (Qc := QI D (fun (r : Int32) (_ : Unit) => r = rB (inR w 0 10) (cntF (n, P, F, G) w)) (fun (u : Unit) => [(x0, .inr (4, [.ref h0, .ref k0, .ref sA, .int (nI nx), .int (nI sl), .int (bR (inR w 0 10) rb), .int rn, .int rf, .ref t0, .ref w0, .ref s0])), (h0, .inr (0, [.int (nI n), .int P, .ref h1, .ref h2])), (h1, .inl (cI, 50, .inl F)), (h2, .inl (cI, 6, .inl G))])) (by decide) rfl rfl (Nat.le_of_ble_eq_true rfl) ?_
  intro pM eM sM mM below meth cM AM ls H locs hx hb hr hts hown hlocks hml hin hK hP hD hS hA hSt hl
  have hl : lv_has ls 2 [(0, .ref x0), (1, .int w)] := hl
  refine lv_iload_n hx hb dX4_count_0 rfl (lv_at hl 1 rfl) ?_
  refine lv_iconst (v := 0) hx hb dX4_count_1 (by decide) ?_
  refine lv_bipush (v := 10) hx hb dX4_count_2 (by decide) ?_
  refine k_i (va_runS (As := [.int w, .int 0, .int 10]) (rest := []) ⟨hx, hb, hml, hown, hts⟩ (c_X4_within l D cI cB cO H.size w 0 10 ) (va_cwS 3 hts gX4_count_X4_within rfl rfl rfl (by decide +kernel) ⟨Nat.le_of_ble_eq_true rfl, Nat.le_of_ble_eq_true rfl⟩) (preS_of hK hP hD hS hA hSt [] (by decide) rfl) rfl rfl hl.1 rfl (lv_room (Nat.le_of_ble_eq_true rfl)) dX4_count_4 ⟨Nat.le_of_ble_eq_true rfl, Nat.le_of_ble_eq_true rfl⟩) hP hD hS hA [] [0, 1, 2, 3] [0, 1, 2, 3] [(x0, .inr (4, [.ref h0, .ref k0, .ref sA, .int (nI nx), .int (nI sl), .int rb, .int rn, .int rf, .ref t0, .ref w0, .ref s0])), (h0, .inr (0, [.int (nI n), .int P, .ref h1, .ref h2])), (h1, .inl (cI, 50, .inl F)), (h2, .inl (cI, 6, .inl G))] (fun (u_1 : Unit) => [(x0, .inr (4, [.ref h0, .ref k0, .ref sA, .int (nI nx), .int (nI sl), .int rb, .int rn, .int rf, .ref t0, .ref w0, .ref s0])), (h0, .inr (0, [.int (nI n), .int P, .ref h1, .ref h2])), (h1, .inl (cI, 50, .inl F)), (h2, .inl (cI, 6, .inl G))]) rfl rfl (by decide) (by decide) (by decide) (fun _ => rfl) (fun r_1 u_1 H locs q_1 hP hD hS => ?_)
  obtain rfl : r_1 = bI (inR w 0 10) := q_1
  refine lv_if_ne (tgt := 17) hx hb dX4_count_7 (by decide) (fun c_2 => ?_) (fun c_2 => ?_)
  · have c_2 := bI_n0.mp c_2
    obtain ⟨k, hk, rfl⟩ := inR_nI (n := 10) (by decide) c_2
    rcases (show k = 0 ∨ k = 1 ∨ k = 2 ∨ k = 3 ∨ k = 4 ∨ k = 5 ∨ k = 6 ∨ k = 7 ∨ k = 8 ∨ k = 9 ∨ k = 10 by omega) with rfl | rfl | rfl | rfl | rfl | rfl | rfl | rfl | rfl | rfl | rfl
    · refine lv_iload_n hx hb dX4_count_17 rfl (lv_at hl 1 rfl) ?_
      refine lv_tableIn (off := 58) (tgt := 76) hx hb dX4_count_18 (by decide) (by decide) (by decide) (by decide) ?_
      refine lv_aload_n hx hb dX4_count_76 rfl (lv_at hl 0 rfl) ?_
      refine va_get (D := D) (ci := 4) (v := .ref h0) (C := RX4) (T := TX4) (N := 11) hx hb hts in_X4_count_4 hown hK hP 0 rfl rfl 0 (by decide) (hts (.fieldLink RX4 12 "HoseSpans" "line" "LHoseSpans$Line;") (List.mem_of_getElem? (i := 2) (by decide +kernel))) (fun _ h9 => h9) rfl dX4_count_77 ?_
      refine va_get (D := D) (ci := 0) (v := .int P) (C := RX0) (T := TX0) (N := 4) hx hb hts in_X4_count_0 hown hK hP 1 rfl rfl 1 (by decide) (hts (.fieldLink RX4 104 "HoseSpans$Line" "pumps" "I") (List.mem_of_getElem? (i := 3) (by decide +kernel))) (fun _ h9 => h9) rfl dX4_count_80 ?_
      refine k_i (va_runS (As := [.int P]) (rest := []) ⟨hx, hb, hml, hown, hts⟩ (c_J6_bitCount_0f7a4 l D cI cB cO H.size P (by first | assumption | omega)) (va_cwS 1 hts gX4_count_J6_bitCount_0f7a4 rfl rfl rfl (by decide +kernel) ⟨Nat.le_of_ble_eq_true rfl, Nat.le_of_ble_eq_true rfl⟩) (preS_of hK hP hD hS hA hSt [] (by decide) rfl) rfl rfl hl.1 rfl (lv_room (Nat.le_of_ble_eq_true rfl)) dX4_count_83 ⟨Nat.le_of_ble_eq_true rfl, Nat.le_of_ble_eq_true rfl⟩) hP hD hS hA [] [0, 1, 2, 3] [0, 1, 2, 3] [(x0, .inr (4, [.ref h0, .ref k0, .ref sA, .int (nI nx), .int (nI sl), .int rb, .int rn, .int rf, .ref t0, .ref w0, .ref s0])), (h0, .inr (0, [.int (nI n), .int P, .ref h1, .ref h2])), (h1, .inl (cI, 50, .inl F)), (h2, .inl (cI, 6, .inl G))] (fun (u_3 : Unit) => [(x0, .inr (4, [.ref h0, .ref k0, .ref sA, .int (nI nx), .int (nI sl), .int rb, .int rn, .int rf, .ref t0, .ref w0, .ref s0])), (h0, .inr (0, [.int (nI n), .int P, .ref h1, .ref h2])), (h1, .inl (cI, 50, .inl F)), (h2, .inl (cI, 6, .inl G))]) rfl rfl (by decide) (by decide) (by decide) (fun _ => rfl) (fun r_3 u_3 H locs q_3 hP hD hS => ?_)
      obtain rfl : r_3 = bcI P := q_3
      rw [show (.int rb : Value) = .int (bR (inR (nI 0) 0 10) rb) from congrArg Value.int (bR_t (by first | assumption | exact and_t2 (by assumption) (by assumption)))] at hP hD
      have hP : va_P D vwCl [(x0, .inr (4, [.ref h0, .ref k0, .ref sA, .int (nI nx), .int (nI sl), .int (bR (inR (nI 0) 0 10) rb), .int rn, .int rf, .ref t0, .ref w0, .ref s0])), (h0, .inr (0, [.int (nI n), .int P, .ref h1, .ref h2])), (h1, .inl (cI, 50, .inl F)), (h2, .inl (cI, 6, .inl G))] H := hP
      have hD : va_D AM [(x0, .inr (4, [.ref h0, .ref k0, .ref sA, .int (nI nx), .int (nI sl), .int (bR (inR (nI 0) 0 10) rb), .int rn, .int rf, .ref t0, .ref w0, .ref s0])), (h0, .inr (0, [.int (nI n), .int P, .ref h1, .ref h2])), (h1, .inl (cI, 50, .inl F)), (h2, .inl (cI, 6, .inl G))] := hD
      refine e_i (u := ()) hx hb hr hlocks hP hD hS dX4_count_86 ?_ ?_
      · rfl
      · exact rB_t2 (by first | assumption | exact and_t2 (by assumption) (by assumption)) rfl
    · refine lv_iload_n hx hb dX4_count_17 rfl (lv_at hl 1 rfl) ?_
      refine lv_tableIn (off := 69) (tgt := 87) hx hb dX4_count_18 (by decide) (by decide) (by decide) (by decide) ?_
      refine lv_aload_n hx hb dX4_count_87 rfl (lv_at hl 0 rfl) ?_
      refine va_get (D := D) (ci := 4) (v := .ref h0) (C := RX4) (T := TX4) (N := 11) hx hb hts in_X4_count_4 hown hK hP 0 rfl rfl 0 (by decide) (hts (.fieldLink RX4 12 "HoseSpans" "line" "LHoseSpans$Line;") (List.mem_of_getElem? (i := 2) (by decide +kernel))) (fun _ h9 => h9) rfl dX4_count_88 ?_
      refine va_get (D := D) (ci := 0) (v := .int P) (C := RX0) (T := TX0) (N := 4) hx hb hts in_X4_count_0 hown hK hP 1 rfl rfl 1 (by decide) (hts (.fieldLink RX4 104 "HoseSpans$Line" "pumps" "I") (List.mem_of_getElem? (i := 3) (by decide +kernel))) (fun _ h9 => h9) rfl dX4_count_91 ?_
      rw [show (.int rb : Value) = .int (bR (inR (nI 1) 0 10) rb) from congrArg Value.int (bR_t (by first | assumption | exact and_t2 (by assumption) (by assumption)))] at hP hD
      have hP : va_P D vwCl [(x0, .inr (4, [.ref h0, .ref k0, .ref sA, .int (nI nx), .int (nI sl), .int (bR (inR (nI 1) 0 10) rb), .int rn, .int rf, .ref t0, .ref w0, .ref s0])), (h0, .inr (0, [.int (nI n), .int P, .ref h1, .ref h2])), (h1, .inl (cI, 50, .inl F)), (h2, .inl (cI, 6, .inl G))] H := hP
      have hD : va_D AM [(x0, .inr (4, [.ref h0, .ref k0, .ref sA, .int (nI nx), .int (nI sl), .int (bR (inR (nI 1) 0 10) rb), .int rn, .int rf, .ref t0, .ref w0, .ref s0])), (h0, .inr (0, [.int (nI n), .int P, .ref h1, .ref h2])), (h1, .inl (cI, 50, .inl F)), (h2, .inl (cI, 6, .inl G))] := hD
      refine e_i (u := ()) hx hb hr hlocks hP hD hS dX4_count_94 ?_ ?_
      · rfl
      · exact rB_t2 (by first | assumption | exact and_t2 (by assumption) (by assumption)) rfl
    · refine lv_iload_n hx hb dX4_count_17 rfl (lv_at hl 1 rfl) ?_
      refine lv_tableIn (off := 77) (tgt := 95) hx hb dX4_count_18 (by decide) (by decide) (by decide) (by decide) ?_
      refine lv_aload_n hx hb dX4_count_95 rfl (lv_at hl 0 rfl) ?_
      refine va_get (D := D) (ci := 4) (v := .ref h0) (C := RX4) (T := TX4) (N := 11) hx hb hts in_X4_count_4 hown hK hP 0 rfl rfl 0 (by decide) (hts (.fieldLink RX4 12 "HoseSpans" "line" "LHoseSpans$Line;") (List.mem_of_getElem? (i := 2) (by decide +kernel))) (fun _ h9 => h9) rfl dX4_count_96 ?_
      refine va_get (D := D) (ci := 0) (v := .int (nI n)) (C := RX0) (T := TX0) (N := 4) hx hb hts in_X4_count_0 hown hK hP 1 rfl rfl 0 (by decide) (hts (.fieldLink RX4 144 "HoseSpans$Line" "spans" "I") (List.mem_of_getElem? (i := 4) (by decide +kernel))) (fun _ h9 => h9) rfl dX4_count_99 ?_
      rw [show (.int rb : Value) = .int (bR (inR (nI 2) 0 10) rb) from congrArg Value.int (bR_t (by first | assumption | exact and_t2 (by assumption) (by assumption)))] at hP hD
      have hP : va_P D vwCl [(x0, .inr (4, [.ref h0, .ref k0, .ref sA, .int (nI nx), .int (nI sl), .int (bR (inR (nI 2) 0 10) rb), .int rn, .int rf, .ref t0, .ref w0, .ref s0])), (h0, .inr (0, [.int (nI n), .int P, .ref h1, .ref h2])), (h1, .inl (cI, 50, .inl F)), (h2, .inl (cI, 6, .inl G))] H := hP
      have hD : va_D AM [(x0, .inr (4, [.ref h0, .ref k0, .ref sA, .int (nI nx), .int (nI sl), .int (bR (inR (nI 2) 0 10) rb), .int rn, .int rf, .ref t0, .ref w0, .ref s0])), (h0, .inr (0, [.int (nI n), .int P, .ref h1, .ref h2])), (h1, .inl (cI, 50, .inl F)), (h2, .inl (cI, 6, .inl G))] := hD
      refine e_i (u := ()) hx hb hr hlocks hP hD hS dX4_count_102 ?_ ?_
      · rfl
      · exact rB_t2 (by first | assumption | exact and_t2 (by assumption) (by assumption)) rfl
    · refine lv_iload_n hx hb dX4_count_17 rfl (lv_at hl 1 rfl) ?_
      refine lv_tableIn (off := 85) (tgt := 103) hx hb dX4_count_18 (by decide) (by decide) (by decide) (by decide) ?_
      refine lv_aload_n hx hb dX4_count_103 rfl (lv_at hl 0 rfl) ?_
      refine va_get (D := D) (ci := 4) (v := .ref h0) (C := RX4) (T := TX4) (N := 11) hx hb hts in_X4_count_4 hown hK hP 0 rfl rfl 0 (by decide) (hts (.fieldLink RX4 12 "HoseSpans" "line" "LHoseSpans$Line;") (List.mem_of_getElem? (i := 2) (by decide +kernel))) (fun _ h9 => h9) rfl dX4_count_104 ?_
      refine k_i (va_runV (As := []) (rest := []) ⟨hx, hb, hml, hown, hts⟩ (c_X0_burstSpans l D cI cB cO H.size h0 h1 h2 n P F (by first | assumption | omega)) (cwV 0 hts gX4_count_X0_burstSpans rfl rfl rfl (by decide +kernel) ⟨Nat.le_of_ble_eq_true rfl, Nat.le_of_ble_eq_true rfl⟩) (preV_of hK hP hD hS hA hSt [1, 2] (by decide) rfl 1 (ci := 0) rfl rfl) rfl rfl hl.1 rfl (lv_room (Nat.le_of_ble_eq_true rfl)) dX4_count_107 ⟨Nat.le_of_ble_eq_true rfl, Nat.le_of_ble_eq_true rfl⟩) hP hD hS hA [1, 2] [0, 3] [0, 2, 3, 1] [(x0, .inr (4, [.ref h0, .ref k0, .ref sA, .int (nI nx), .int (nI sl), .int rb, .int rn, .int rf, .ref t0, .ref w0, .ref s0])), (h2, .inl (cI, 6, .inl G))] (fun (u_4 : Unit) => [(x0, .inr (4, [.ref h0, .ref k0, .ref sA, .int (nI nx), .int (nI sl), .int rb, .int rn, .int rf, .ref t0, .ref w0, .ref s0])), (h0, .inr (0, [.int (nI n), .int P, .ref h1, .ref h2])), (h1, .inl (cI, 50, .inl F)), (h2, .inl (cI, 6, .inl G))]) rfl rfl (by decide) (by decide) (by decide) (fun _ => rfl) (fun r_4 u_4 H locs q_4 hP hD hS => ?_)
      obtain rfl : r_4 = sumB F n := q_4
      rw [show (.int rb : Value) = .int (bR (inR (nI 3) 0 10) rb) from congrArg Value.int (bR_t (by first | assumption | exact and_t2 (by assumption) (by assumption)))] at hP hD
      have hP : va_P D vwCl [(x0, .inr (4, [.ref h0, .ref k0, .ref sA, .int (nI nx), .int (nI sl), .int (bR (inR (nI 3) 0 10) rb), .int rn, .int rf, .ref t0, .ref w0, .ref s0])), (h0, .inr (0, [.int (nI n), .int P, .ref h1, .ref h2])), (h1, .inl (cI, 50, .inl F)), (h2, .inl (cI, 6, .inl G))] H := hP
      have hD : va_D AM [(x0, .inr (4, [.ref h0, .ref k0, .ref sA, .int (nI nx), .int (nI sl), .int (bR (inR (nI 3) 0 10) rb), .int rn, .int rf, .ref t0, .ref w0, .ref s0])), (h0, .inr (0, [.int (nI n), .int P, .ref h1, .ref h2])), (h1, .inl (cI, 50, .inl F)), (h2, .inl (cI, 6, .inl G))] := hD
      refine e_i (u := ()) hx hb hr hlocks hP hD hS dX4_count_110 ?_ ?_
      · rfl
      · exact rB_t2 (by first | assumption | exact and_t2 (by assumption) (by assumption)) rfl
    · refine lv_iload_n hx hb dX4_count_17 rfl (lv_at hl 1 rfl) ?_
      refine lv_tableIn (off := 101) (tgt := 119) hx hb dX4_count_18 (by decide) (by decide) (by decide) (by decide) ?_
      refine lv_aload_n hx hb dX4_count_119 rfl (lv_at hl 0 rfl) ?_
      refine va_get (D := D) (ci := 4) (v := .ref h0) (C := RX4) (T := TX4) (N := 11) hx hb hts in_X4_count_4 hown hK hP 0 rfl rfl 0 (by decide) (hts (.fieldLink RX4 12 "HoseSpans" "line" "LHoseSpans$Line;") (List.mem_of_getElem? (i := 2) (by decide +kernel))) (fun _ h9 => h9) rfl dX4_count_120 ?_
      refine va_get (D := D) (ci := 0) (v := .ref h2) (C := RX0) (T := TX0) (N := 4) hx hb hts in_X4_count_0 hown hK hP 1 rfl rfl 3 (by decide) (hts (.fieldLink RX4 88 "HoseSpans$Line" "settings" "[I") (List.mem_of_getElem? (i := 5) (by decide +kernel))) (fun _ h9 => h9) rfl dX4_count_123 ?_
      refine lv_iload_n hx hb dX4_count_126 rfl (lv_at hl 1 rfl) ?_
      refine lv_iconst (v := 4) hx hb dX4_count_127 (by decide) ?_
      refine lv_isub hx hb dX4_count_128 ?_
      refine e_n (y := nI 0) (by decide) ?_
      refine va_iald hx hb hK hP 3 0 rfl rfl (vp_in_nI (by omega) (by decide)) dX4_count_129 ?_
      refine e_n (y := G 0) (congrArg G (nI_clamp (by omega))) ?_
      rw [show (.int rb : Value) = .int (bR (inR (nI 4) 0 10) rb) from congrArg Value.int (bR_t (by first | assumption | exact and_t2 (by assumption) (by assumption)))] at hP hD
      have hP : va_P D vwCl [(x0, .inr (4, [.ref h0, .ref k0, .ref sA, .int (nI nx), .int (nI sl), .int (bR (inR (nI 4) 0 10) rb), .int rn, .int rf, .ref t0, .ref w0, .ref s0])), (h0, .inr (0, [.int (nI n), .int P, .ref h1, .ref h2])), (h1, .inl (cI, 50, .inl F)), (h2, .inl (cI, 6, .inl G))] H := hP
      have hD : va_D AM [(x0, .inr (4, [.ref h0, .ref k0, .ref sA, .int (nI nx), .int (nI sl), .int (bR (inR (nI 4) 0 10) rb), .int rn, .int rf, .ref t0, .ref w0, .ref s0])), (h0, .inr (0, [.int (nI n), .int P, .ref h1, .ref h2])), (h1, .inl (cI, 50, .inl F)), (h2, .inl (cI, 6, .inl G))] := hD
      refine e_i (u := ()) hx hb hr hlocks hP hD hS dX4_count_130 ?_ ?_
      · rfl
      · exact rB_t2 (by first | assumption | exact and_t2 (by assumption) (by assumption)) rfl
    · refine lv_iload_n hx hb dX4_count_17 rfl (lv_at hl 1 rfl) ?_
      refine lv_tableIn (off := 101) (tgt := 119) hx hb dX4_count_18 (by decide) (by decide) (by decide) (by decide) ?_
      refine lv_aload_n hx hb dX4_count_119 rfl (lv_at hl 0 rfl) ?_
      refine va_get (D := D) (ci := 4) (v := .ref h0) (C := RX4) (T := TX4) (N := 11) hx hb hts in_X4_count_4 hown hK hP 0 rfl rfl 0 (by decide) (hts (.fieldLink RX4 12 "HoseSpans" "line" "LHoseSpans$Line;") (List.mem_of_getElem? (i := 2) (by decide +kernel))) (fun _ h9 => h9) rfl dX4_count_120 ?_
      refine va_get (D := D) (ci := 0) (v := .ref h2) (C := RX0) (T := TX0) (N := 4) hx hb hts in_X4_count_0 hown hK hP 1 rfl rfl 3 (by decide) (hts (.fieldLink RX4 88 "HoseSpans$Line" "settings" "[I") (List.mem_of_getElem? (i := 5) (by decide +kernel))) (fun _ h9 => h9) rfl dX4_count_123 ?_
      refine lv_iload_n hx hb dX4_count_126 rfl (lv_at hl 1 rfl) ?_
      refine lv_iconst (v := 4) hx hb dX4_count_127 (by decide) ?_
      refine lv_isub hx hb dX4_count_128 ?_
      refine e_n (y := nI 1) (by decide) ?_
      refine va_iald hx hb hK hP 3 0 rfl rfl (vp_in_nI (by omega) (by decide)) dX4_count_129 ?_
      refine e_n (y := G 1) (congrArg G (nI_clamp (by omega))) ?_
      rw [show (.int rb : Value) = .int (bR (inR (nI 5) 0 10) rb) from congrArg Value.int (bR_t (by first | assumption | exact and_t2 (by assumption) (by assumption)))] at hP hD
      have hP : va_P D vwCl [(x0, .inr (4, [.ref h0, .ref k0, .ref sA, .int (nI nx), .int (nI sl), .int (bR (inR (nI 5) 0 10) rb), .int rn, .int rf, .ref t0, .ref w0, .ref s0])), (h0, .inr (0, [.int (nI n), .int P, .ref h1, .ref h2])), (h1, .inl (cI, 50, .inl F)), (h2, .inl (cI, 6, .inl G))] H := hP
      have hD : va_D AM [(x0, .inr (4, [.ref h0, .ref k0, .ref sA, .int (nI nx), .int (nI sl), .int (bR (inR (nI 5) 0 10) rb), .int rn, .int rf, .ref t0, .ref w0, .ref s0])), (h0, .inr (0, [.int (nI n), .int P, .ref h1, .ref h2])), (h1, .inl (cI, 50, .inl F)), (h2, .inl (cI, 6, .inl G))] := hD
      refine e_i (u := ()) hx hb hr hlocks hP hD hS dX4_count_130 ?_ ?_
      · rfl
      · exact rB_t2 (by first | assumption | exact and_t2 (by assumption) (by assumption)) rfl
    · refine lv_iload_n hx hb dX4_count_17 rfl (lv_at hl 1 rfl) ?_
      refine lv_tableIn (off := 101) (tgt := 119) hx hb dX4_count_18 (by decide) (by decide) (by decide) (by decide) ?_
      refine lv_aload_n hx hb dX4_count_119 rfl (lv_at hl 0 rfl) ?_
      refine va_get (D := D) (ci := 4) (v := .ref h0) (C := RX4) (T := TX4) (N := 11) hx hb hts in_X4_count_4 hown hK hP 0 rfl rfl 0 (by decide) (hts (.fieldLink RX4 12 "HoseSpans" "line" "LHoseSpans$Line;") (List.mem_of_getElem? (i := 2) (by decide +kernel))) (fun _ h9 => h9) rfl dX4_count_120 ?_
      refine va_get (D := D) (ci := 0) (v := .ref h2) (C := RX0) (T := TX0) (N := 4) hx hb hts in_X4_count_0 hown hK hP 1 rfl rfl 3 (by decide) (hts (.fieldLink RX4 88 "HoseSpans$Line" "settings" "[I") (List.mem_of_getElem? (i := 5) (by decide +kernel))) (fun _ h9 => h9) rfl dX4_count_123 ?_
      refine lv_iload_n hx hb dX4_count_126 rfl (lv_at hl 1 rfl) ?_
      refine lv_iconst (v := 4) hx hb dX4_count_127 (by decide) ?_
      refine lv_isub hx hb dX4_count_128 ?_
      refine e_n (y := nI 2) (by decide) ?_
      refine va_iald hx hb hK hP 3 0 rfl rfl (vp_in_nI (by omega) (by decide)) dX4_count_129 ?_
      refine e_n (y := G 2) (congrArg G (nI_clamp (by omega))) ?_
      rw [show (.int rb : Value) = .int (bR (inR (nI 6) 0 10) rb) from congrArg Value.int (bR_t (by first | assumption | exact and_t2 (by assumption) (by assumption)))] at hP hD
      have hP : va_P D vwCl [(x0, .inr (4, [.ref h0, .ref k0, .ref sA, .int (nI nx), .int (nI sl), .int (bR (inR (nI 6) 0 10) rb), .int rn, .int rf, .ref t0, .ref w0, .ref s0])), (h0, .inr (0, [.int (nI n), .int P, .ref h1, .ref h2])), (h1, .inl (cI, 50, .inl F)), (h2, .inl (cI, 6, .inl G))] H := hP
      have hD : va_D AM [(x0, .inr (4, [.ref h0, .ref k0, .ref sA, .int (nI nx), .int (nI sl), .int (bR (inR (nI 6) 0 10) rb), .int rn, .int rf, .ref t0, .ref w0, .ref s0])), (h0, .inr (0, [.int (nI n), .int P, .ref h1, .ref h2])), (h1, .inl (cI, 50, .inl F)), (h2, .inl (cI, 6, .inl G))] := hD
      refine e_i (u := ()) hx hb hr hlocks hP hD hS dX4_count_130 ?_ ?_
      · rfl
      · exact rB_t2 (by first | assumption | exact and_t2 (by assumption) (by assumption)) rfl
    · refine lv_iload_n hx hb dX4_count_17 rfl (lv_at hl 1 rfl) ?_
      refine lv_tableIn (off := 101) (tgt := 119) hx hb dX4_count_18 (by decide) (by decide) (by decide) (by decide) ?_
      refine lv_aload_n hx hb dX4_count_119 rfl (lv_at hl 0 rfl) ?_
      refine va_get (D := D) (ci := 4) (v := .ref h0) (C := RX4) (T := TX4) (N := 11) hx hb hts in_X4_count_4 hown hK hP 0 rfl rfl 0 (by decide) (hts (.fieldLink RX4 12 "HoseSpans" "line" "LHoseSpans$Line;") (List.mem_of_getElem? (i := 2) (by decide +kernel))) (fun _ h9 => h9) rfl dX4_count_120 ?_
      refine va_get (D := D) (ci := 0) (v := .ref h2) (C := RX0) (T := TX0) (N := 4) hx hb hts in_X4_count_0 hown hK hP 1 rfl rfl 3 (by decide) (hts (.fieldLink RX4 88 "HoseSpans$Line" "settings" "[I") (List.mem_of_getElem? (i := 5) (by decide +kernel))) (fun _ h9 => h9) rfl dX4_count_123 ?_
      refine lv_iload_n hx hb dX4_count_126 rfl (lv_at hl 1 rfl) ?_
      refine lv_iconst (v := 4) hx hb dX4_count_127 (by decide) ?_
      refine lv_isub hx hb dX4_count_128 ?_
      refine e_n (y := nI 3) (by decide) ?_
      refine va_iald hx hb hK hP 3 0 rfl rfl (vp_in_nI (by omega) (by decide)) dX4_count_129 ?_
      refine e_n (y := G 3) (congrArg G (nI_clamp (by omega))) ?_
      rw [show (.int rb : Value) = .int (bR (inR (nI 7) 0 10) rb) from congrArg Value.int (bR_t (by first | assumption | exact and_t2 (by assumption) (by assumption)))] at hP hD
      have hP : va_P D vwCl [(x0, .inr (4, [.ref h0, .ref k0, .ref sA, .int (nI nx), .int (nI sl), .int (bR (inR (nI 7) 0 10) rb), .int rn, .int rf, .ref t0, .ref w0, .ref s0])), (h0, .inr (0, [.int (nI n), .int P, .ref h1, .ref h2])), (h1, .inl (cI, 50, .inl F)), (h2, .inl (cI, 6, .inl G))] H := hP
      have hD : va_D AM [(x0, .inr (4, [.ref h0, .ref k0, .ref sA, .int (nI nx), .int (nI sl), .int (bR (inR (nI 7) 0 10) rb), .int rn, .int rf, .ref t0, .ref w0, .ref s0])), (h0, .inr (0, [.int (nI n), .int P, .ref h1, .ref h2])), (h1, .inl (cI, 50, .inl F)), (h2, .inl (cI, 6, .inl G))] := hD
      refine e_i (u := ()) hx hb hr hlocks hP hD hS dX4_count_130 ?_ ?_
      · rfl
      · exact rB_t2 (by first | assumption | exact and_t2 (by assumption) (by assumption)) rfl
    · refine lv_iload_n hx hb dX4_count_17 rfl (lv_at hl 1 rfl) ?_
      refine lv_tableIn (off := 101) (tgt := 119) hx hb dX4_count_18 (by decide) (by decide) (by decide) (by decide) ?_
      refine lv_aload_n hx hb dX4_count_119 rfl (lv_at hl 0 rfl) ?_
      refine va_get (D := D) (ci := 4) (v := .ref h0) (C := RX4) (T := TX4) (N := 11) hx hb hts in_X4_count_4 hown hK hP 0 rfl rfl 0 (by decide) (hts (.fieldLink RX4 12 "HoseSpans" "line" "LHoseSpans$Line;") (List.mem_of_getElem? (i := 2) (by decide +kernel))) (fun _ h9 => h9) rfl dX4_count_120 ?_
      refine va_get (D := D) (ci := 0) (v := .ref h2) (C := RX0) (T := TX0) (N := 4) hx hb hts in_X4_count_0 hown hK hP 1 rfl rfl 3 (by decide) (hts (.fieldLink RX4 88 "HoseSpans$Line" "settings" "[I") (List.mem_of_getElem? (i := 5) (by decide +kernel))) (fun _ h9 => h9) rfl dX4_count_123 ?_
      refine lv_iload_n hx hb dX4_count_126 rfl (lv_at hl 1 rfl) ?_
      refine lv_iconst (v := 4) hx hb dX4_count_127 (by decide) ?_
      refine lv_isub hx hb dX4_count_128 ?_
      refine e_n (y := nI 4) (by decide) ?_
      refine va_iald hx hb hK hP 3 0 rfl rfl (vp_in_nI (by omega) (by decide)) dX4_count_129 ?_
      refine e_n (y := G 4) (congrArg G (nI_clamp (by omega))) ?_
      rw [show (.int rb : Value) = .int (bR (inR (nI 8) 0 10) rb) from congrArg Value.int (bR_t (by first | assumption | exact and_t2 (by assumption) (by assumption)))] at hP hD
      have hP : va_P D vwCl [(x0, .inr (4, [.ref h0, .ref k0, .ref sA, .int (nI nx), .int (nI sl), .int (bR (inR (nI 8) 0 10) rb), .int rn, .int rf, .ref t0, .ref w0, .ref s0])), (h0, .inr (0, [.int (nI n), .int P, .ref h1, .ref h2])), (h1, .inl (cI, 50, .inl F)), (h2, .inl (cI, 6, .inl G))] H := hP
      have hD : va_D AM [(x0, .inr (4, [.ref h0, .ref k0, .ref sA, .int (nI nx), .int (nI sl), .int (bR (inR (nI 8) 0 10) rb), .int rn, .int rf, .ref t0, .ref w0, .ref s0])), (h0, .inr (0, [.int (nI n), .int P, .ref h1, .ref h2])), (h1, .inl (cI, 50, .inl F)), (h2, .inl (cI, 6, .inl G))] := hD
      refine e_i (u := ()) hx hb hr hlocks hP hD hS dX4_count_130 ?_ ?_
      · rfl
      · exact rB_t2 (by first | assumption | exact and_t2 (by assumption) (by assumption)) rfl
    · refine lv_iload_n hx hb dX4_count_17 rfl (lv_at hl 1 rfl) ?_
      refine lv_tableIn (off := 101) (tgt := 119) hx hb dX4_count_18 (by decide) (by decide) (by decide) (by decide) ?_
      refine lv_aload_n hx hb dX4_count_119 rfl (lv_at hl 0 rfl) ?_
      refine va_get (D := D) (ci := 4) (v := .ref h0) (C := RX4) (T := TX4) (N := 11) hx hb hts in_X4_count_4 hown hK hP 0 rfl rfl 0 (by decide) (hts (.fieldLink RX4 12 "HoseSpans" "line" "LHoseSpans$Line;") (List.mem_of_getElem? (i := 2) (by decide +kernel))) (fun _ h9 => h9) rfl dX4_count_120 ?_
      refine va_get (D := D) (ci := 0) (v := .ref h2) (C := RX0) (T := TX0) (N := 4) hx hb hts in_X4_count_0 hown hK hP 1 rfl rfl 3 (by decide) (hts (.fieldLink RX4 88 "HoseSpans$Line" "settings" "[I") (List.mem_of_getElem? (i := 5) (by decide +kernel))) (fun _ h9 => h9) rfl dX4_count_123 ?_
      refine lv_iload_n hx hb dX4_count_126 rfl (lv_at hl 1 rfl) ?_
      refine lv_iconst (v := 4) hx hb dX4_count_127 (by decide) ?_
      refine lv_isub hx hb dX4_count_128 ?_
      refine e_n (y := nI 5) (by decide) ?_
      refine va_iald hx hb hK hP 3 0 rfl rfl (vp_in_nI (by omega) (by decide)) dX4_count_129 ?_
      refine e_n (y := G 5) (congrArg G (nI_clamp (by omega))) ?_
      rw [show (.int rb : Value) = .int (bR (inR (nI 9) 0 10) rb) from congrArg Value.int (bR_t (by first | assumption | exact and_t2 (by assumption) (by assumption)))] at hP hD
      have hP : va_P D vwCl [(x0, .inr (4, [.ref h0, .ref k0, .ref sA, .int (nI nx), .int (nI sl), .int (bR (inR (nI 9) 0 10) rb), .int rn, .int rf, .ref t0, .ref w0, .ref s0])), (h0, .inr (0, [.int (nI n), .int P, .ref h1, .ref h2])), (h1, .inl (cI, 50, .inl F)), (h2, .inl (cI, 6, .inl G))] H := hP
      have hD : va_D AM [(x0, .inr (4, [.ref h0, .ref k0, .ref sA, .int (nI nx), .int (nI sl), .int (bR (inR (nI 9) 0 10) rb), .int rn, .int rf, .ref t0, .ref w0, .ref s0])), (h0, .inr (0, [.int (nI n), .int P, .ref h1, .ref h2])), (h1, .inl (cI, 50, .inl F)), (h2, .inl (cI, 6, .inl G))] := hD
      refine e_i (u := ()) hx hb hr hlocks hP hD hS dX4_count_130 ?_ ?_
      · rfl
      · exact rB_t2 (by first | assumption | exact and_t2 (by assumption) (by assumption)) rfl
    · refine lv_iload_n hx hb dX4_count_17 rfl (lv_at hl 1 rfl) ?_
      refine lv_tableIn (off := 93) (tgt := 111) hx hb dX4_count_18 (by decide) (by decide) (by decide) (by decide) ?_
      refine lv_aload_n hx hb dX4_count_111 rfl (lv_at hl 0 rfl) ?_
      refine va_get (D := D) (ci := 4) (v := .ref h0) (C := RX4) (T := TX4) (N := 11) hx hb hts in_X4_count_4 hown hK hP 0 rfl rfl 0 (by decide) (hts (.fieldLink RX4 12 "HoseSpans" "line" "LHoseSpans$Line;") (List.mem_of_getElem? (i := 2) (by decide +kernel))) (fun _ h9 => h9) rfl dX4_count_112 ?_
      refine k_i (va_runV (As := []) (rest := []) ⟨hx, hb, hml, hown, hts⟩ (c_X0_allLengths l D cI cB cO H.size h0 h1 h2 n P F (by first | assumption | omega)) (cwV 0 hts gX4_count_X0_allLengths rfl rfl rfl (by decide +kernel) ⟨Nat.le_of_ble_eq_true rfl, Nat.le_of_ble_eq_true rfl⟩) (preV_of hK hP hD hS hA hSt [1, 2] (by decide) rfl 1 (ci := 0) rfl rfl) rfl rfl hl.1 rfl (lv_room (Nat.le_of_ble_eq_true rfl)) dX4_count_115 ⟨Nat.le_of_ble_eq_true rfl, Nat.le_of_ble_eq_true rfl⟩) hP hD hS hA [1, 2] [0, 3] [0, 2, 3, 1] [(x0, .inr (4, [.ref h0, .ref k0, .ref sA, .int (nI nx), .int (nI sl), .int rb, .int rn, .int rf, .ref t0, .ref w0, .ref s0])), (h2, .inl (cI, 6, .inl G))] (fun (u_5 : Unit) => [(x0, .inr (4, [.ref h0, .ref k0, .ref sA, .int (nI nx), .int (nI sl), .int rb, .int rn, .int rf, .ref t0, .ref w0, .ref s0])), (h0, .inr (0, [.int (nI n), .int P, .ref h1, .ref h2])), (h1, .inl (cI, 50, .inl F)), (h2, .inl (cI, 6, .inl G))]) rfl rfl (by decide) (by decide) (by decide) (fun _ => rfl) (fun r_5 u_5 H locs q_5 hP hD hS => ?_)
      obtain rfl : r_5 = sumH F n := q_5
      rw [show (.int rb : Value) = .int (bR (inR (nI 10) 0 10) rb) from congrArg Value.int (bR_t (by first | assumption | exact and_t2 (by assumption) (by assumption)))] at hP hD
      have hP : va_P D vwCl [(x0, .inr (4, [.ref h0, .ref k0, .ref sA, .int (nI nx), .int (nI sl), .int (bR (inR (nI 10) 0 10) rb), .int rn, .int rf, .ref t0, .ref w0, .ref s0])), (h0, .inr (0, [.int (nI n), .int P, .ref h1, .ref h2])), (h1, .inl (cI, 50, .inl F)), (h2, .inl (cI, 6, .inl G))] H := hP
      have hD : va_D AM [(x0, .inr (4, [.ref h0, .ref k0, .ref sA, .int (nI nx), .int (nI sl), .int (bR (inR (nI 10) 0 10) rb), .int rn, .int rf, .ref t0, .ref w0, .ref s0])), (h0, .inr (0, [.int (nI n), .int P, .ref h1, .ref h2])), (h1, .inl (cI, 50, .inl F)), (h2, .inl (cI, 6, .inl G))] := hD
      refine e_i (u := ()) hx hb hr hlocks hP hD hS dX4_count_118 ?_ ?_
      · rfl
      · exact rB_t2 (by first | assumption | exact and_t2 (by assumption) (by assumption)) rfl
  · have c_2 := bI_0.mp c_2
    refine lv_aload_n hx hb dX4_count_10 rfl (lv_at hl 0 rfl) ?_
    refine lv_ldc (v := -1000002) hx hb hown (hts (.constant RX4 118 (-1000002)) (List.mem_of_getElem? (i := 1) (by decide +kernel))) dX4_count_11 ?_
    refine k_i (va_runV (As := [.int (-1000002)]) (rest := []) ⟨hx, hb, hml, hown, hts⟩ (c_X4_counted l D cI cB cO H.size x0 h0 k0 sA t0 w0 s0 nx sl rb rn rf (-1000002) ) (cwV 1 hts gX4_count_X4_counted rfl rfl rfl (by decide +kernel) ⟨Nat.le_of_ble_eq_true rfl, Nat.le_of_ble_eq_true rfl⟩) (preV_of hK hP hD hS hA hSt [0] (by decide) rfl 0 (ci := 4) rfl rfl) rfl rfl hl.1 rfl (lv_room (Nat.le_of_ble_eq_true rfl)) dX4_count_13 ⟨Nat.le_of_ble_eq_true rfl, Nat.le_of_ble_eq_true rfl⟩) hP hD hS hA [0] [1, 2, 3] [3, 0, 1, 2] [(h0, .inr (0, [.int (nI n), .int P, .ref h1, .ref h2])), (h1, .inl (cI, 50, .inl F)), (h2, .inl (cI, 6, .inl G))] (fun (u_6 : Unit) => [(x0, .inr (4, [.ref h0, .ref k0, .ref sA, .int (nI nx), .int (nI sl), .int (uB (-1000002) rb), .int (uN (-1000002) rn), .int (uF (-1000002) rf), .ref t0, .ref w0, .ref s0])), (h0, .inr (0, [.int (nI n), .int P, .ref h1, .ref h2])), (h1, .inl (cI, 50, .inl F)), (h2, .inl (cI, 6, .inl G))]) rfl rfl (by decide) (by decide) (by decide) (fun _ => rfl) (fun r_6 u_6 H locs q_6 hP hD hS => ?_)
    obtain rfl : r_6 = -1000002 := q_6
    rw [show (.int (uB (-1000002) rb) : Value) = .int (bR (inR w 0 10) rb) from congrArg Value.int ((uB_B rb).trans (bR_f (by first | assumption | exact and_f1 (by assumption) | exact and_f2 (by assumption))))] at hP hD
    have hP : va_P D vwCl [(x0, .inr (4, [.ref h0, .ref k0, .ref sA, .int (nI nx), .int (nI sl), .int (bR (inR w 0 10) rb), .int (uN (-1000002) rn), .int (uF (-1000002) rf), .ref t0, .ref w0, .ref s0])), (h0, .inr (0, [.int (nI n), .int P, .ref h1, .ref h2])), (h1, .inl (cI, 50, .inl F)), (h2, .inl (cI, 6, .inl G))] H := hP
    have hD : va_D AM [(x0, .inr (4, [.ref h0, .ref k0, .ref sA, .int (nI nx), .int (nI sl), .int (bR (inR w 0 10) rb), .int (uN (-1000002) rn), .int (uF (-1000002) rf), .ref t0, .ref w0, .ref s0])), (h0, .inr (0, [.int (nI n), .int P, .ref h1, .ref h2])), (h1, .inl (cI, 50, .inl F)), (h2, .inl (cI, 6, .inl G))] := hD
    rw [show (.int (uN (-1000002) rn) : Value) = .int rn from congrArg Value.int (uN_B rn)] at hP hD
    have hP : va_P D vwCl [(x0, .inr (4, [.ref h0, .ref k0, .ref sA, .int (nI nx), .int (nI sl), .int (bR (inR w 0 10) rb), .int rn, .int (uF (-1000002) rf), .ref t0, .ref w0, .ref s0])), (h0, .inr (0, [.int (nI n), .int P, .ref h1, .ref h2])), (h1, .inl (cI, 50, .inl F)), (h2, .inl (cI, 6, .inl G))] H := hP
    have hD : va_D AM [(x0, .inr (4, [.ref h0, .ref k0, .ref sA, .int (nI nx), .int (nI sl), .int (bR (inR w 0 10) rb), .int rn, .int (uF (-1000002) rf), .ref t0, .ref w0, .ref s0])), (h0, .inr (0, [.int (nI n), .int P, .ref h1, .ref h2])), (h1, .inl (cI, 50, .inl F)), (h2, .inl (cI, 6, .inl G))] := hD
    rw [show (.int (uF (-1000002) rf) : Value) = .int rf from congrArg Value.int (uF_B rf)] at hP hD
    have hP : va_P D vwCl [(x0, .inr (4, [.ref h0, .ref k0, .ref sA, .int (nI nx), .int (nI sl), .int (bR (inR w 0 10) rb), .int rn, .int rf, .ref t0, .ref w0, .ref s0])), (h0, .inr (0, [.int (nI n), .int P, .ref h1, .ref h2])), (h1, .inl (cI, 50, .inl F)), (h2, .inl (cI, 6, .inl G))] H := hP
    have hD : va_D AM [(x0, .inr (4, [.ref h0, .ref k0, .ref sA, .int (nI nx), .int (nI sl), .int (bR (inR w 0 10) rb), .int rn, .int rf, .ref t0, .ref w0, .ref s0])), (h0, .inr (0, [.int (nI n), .int P, .ref h1, .ref h2])), (h1, .inl (cI, 50, .inl F)), (h2, .inl (cI, 6, .inl G))] := hD
    refine e_i (u := ()) hx hb hr hlocks hP hD hS dX4_count_16 ?_ ?_
    · rfl
    · exact rB_f (by first | assumption | exact and_f1 (by assumption) | exact and_f2 (by assumption))
set_option maxHeartbeats 4000000 in
set_option maxRecDepth 100000 in
theorem c_X4_isTrip (l : Launch) (D : va_G) (cI cB cO : ClassId) (sz : Nat) (vv aa dd ee : Int32)  : CI l yX4_isTrip wsX4_isTrip ({ frames := 1, cells := 0, slots := 0, locals := 22 } : Room) D (tyL cI cB cO) [.int vv, .int aa, .int dd, .int ee] [] sz (fun (r : Int32) (_ : Unit) => r = bI (tripB vv aa dd ee)) (fun (u : Unit) => []) 0 0 := by
  refine ct_of (cc := cX4_isTrip) (maxL := 4) (ret := some .boolean) (own := RX4) (Qc := QI D (fun (r : Int32) (_ : Unit) => r = bI (tripB vv aa dd ee)) (fun (u : Unit) => [])) (by decide) rfl rfl (Nat.le_of_ble_eq_true rfl) ?_
  intro pM eM sM mM below meth cM AM ls H locs hx hb hr hts hown hlocks hml hin hK hP hD hS hA hSt hl
  have hl : lv_has ls 4 [(0, .int vv), (1, .int aa), (2, .int dd), (3, .int ee)] := hl
  refine lv_iload_n hx hb dX4_isTrip_0 rfl (lv_at hl 0 rfl) ?_
  refine lv_iconst (v := 1) hx hb dX4_isTrip_1 (by decide) ?_
  refine lv_bipush (v := 99) hx hb dX4_isTrip_2 (by decide) ?_
  refine k_i (va_runS (As := [.int vv, .int 1, .int 99]) (rest := []) ⟨hx, hb, hml, hown, hts⟩ (c_X4_within l D cI cB cO H.size vv 1 99 ) (va_cwS 3 hts gX4_isTrip_X4_within rfl rfl rfl (by decide +kernel) ⟨Nat.le_of_ble_eq_true rfl, Nat.le_of_ble_eq_true rfl⟩) (preS_of hK hP hD hS hA hSt [] (by decide) rfl) rfl rfl hl.1 rfl (lv_room (Nat.le_of_ble_eq_true rfl)) dX4_isTrip_4 ⟨Nat.le_of_ble_eq_true rfl, Nat.le_of_ble_eq_true rfl⟩) hP hD hS hA [] [] [] [] (fun (u_1 : Unit) => []) rfl rfl (by decide) (by decide) (by decide) (fun _ => rfl) (fun r_1 u_1 H locs q_1 hP hD hS => ?_)
  obtain rfl : r_1 = bI (inR vv 1 99) := q_1
  refine lv_if_eq (tgt := 44) hx hb dX4_isTrip_7 (by decide) (fun c_2 => ?_) (fun c_2 => ?_)
  · have c_2 := bI_0.mp c_2
    refine lv_iconst (v := 0) hx hb dX4_isTrip_44 (by decide) ?_
    refine e_z (u := ()) hx hb hr (by first | rfl | exact bI_nar _) hlocks hP hD hS dX4_isTrip_45 ?_ ?_
    · rfl
    · first | exact bI_t (tripB_ok (by assumption) (by assumption) (by assumption) (by assumption)) | exact bI_f (tripB_f1 (by assumption)) | exact bI_f (tripB_f2 (by assumption)) | exact bI_f (tripB_f3 (by assumption)) | exact bI_f (tripB_f4 (by assumption))
  · have c_2 := bI_n0.mp c_2
    refine lv_iload_n hx hb dX4_isTrip_10 rfl (lv_at hl 1 rfl) ?_
    refine lv_iconst (v := 1) hx hb dX4_isTrip_11 (by decide) ?_
    refine lv_bipush (v := 99) hx hb dX4_isTrip_12 (by decide) ?_
    refine k_i (va_runS (As := [.int aa, .int 1, .int 99]) (rest := []) ⟨hx, hb, hml, hown, hts⟩ (c_X4_within l D cI cB cO H.size aa 1 99 ) (va_cwS 3 hts gX4_isTrip_X4_within rfl rfl rfl (by decide +kernel) ⟨Nat.le_of_ble_eq_true rfl, Nat.le_of_ble_eq_true rfl⟩) (preS_of hK hP hD hS hA hSt [] (by decide) rfl) rfl rfl hl.1 rfl (lv_room (Nat.le_of_ble_eq_true rfl)) dX4_isTrip_14 ⟨Nat.le_of_ble_eq_true rfl, Nat.le_of_ble_eq_true rfl⟩) hP hD hS hA [] [] [] [] (fun (u_3 : Unit) => []) rfl rfl (by decide) (by decide) (by decide) (fun _ => rfl) (fun r_3 u_3 H locs q_3 hP hD hS => ?_)
    obtain rfl : r_3 = bI (inR aa 1 99) := q_3
    refine lv_if_eq (tgt := 44) hx hb dX4_isTrip_17 (by decide) (fun c_4 => ?_) (fun c_4 => ?_)
    · have c_4 := bI_0.mp c_4
      refine lv_iconst (v := 0) hx hb dX4_isTrip_44 (by decide) ?_
      refine e_z (u := ()) hx hb hr (by first | rfl | exact bI_nar _) hlocks hP hD hS dX4_isTrip_45 ?_ ?_
      · rfl
      · first | exact bI_t (tripB_ok (by assumption) (by assumption) (by assumption) (by assumption)) | exact bI_f (tripB_f1 (by assumption)) | exact bI_f (tripB_f2 (by assumption)) | exact bI_f (tripB_f3 (by assumption)) | exact bI_f (tripB_f4 (by assumption))
    · have c_4 := bI_n0.mp c_4
      refine lv_iload_n hx hb dX4_isTrip_20 rfl (lv_at hl 2 rfl) ?_
      refine lv_iconst (v := 1) hx hb dX4_isTrip_21 (by decide) ?_
      refine lv_bipush (v := 99) hx hb dX4_isTrip_22 (by decide) ?_
      refine k_i (va_runS (As := [.int dd, .int 1, .int 99]) (rest := []) ⟨hx, hb, hml, hown, hts⟩ (c_X4_within l D cI cB cO H.size dd 1 99 ) (va_cwS 3 hts gX4_isTrip_X4_within rfl rfl rfl (by decide +kernel) ⟨Nat.le_of_ble_eq_true rfl, Nat.le_of_ble_eq_true rfl⟩) (preS_of hK hP hD hS hA hSt [] (by decide) rfl) rfl rfl hl.1 rfl (lv_room (Nat.le_of_ble_eq_true rfl)) dX4_isTrip_24 ⟨Nat.le_of_ble_eq_true rfl, Nat.le_of_ble_eq_true rfl⟩) hP hD hS hA [] [] [] [] (fun (u_5 : Unit) => []) rfl rfl (by decide) (by decide) (by decide) (fun _ => rfl) (fun r_5 u_5 H locs q_5 hP hD hS => ?_)
      obtain rfl : r_5 = bI (inR dd 1 99) := q_5
      refine lv_if_eq (tgt := 44) hx hb dX4_isTrip_27 (by decide) (fun c_6 => ?_) (fun c_6 => ?_)
      · have c_6 := bI_0.mp c_6
        refine lv_iconst (v := 0) hx hb dX4_isTrip_44 (by decide) ?_
        refine e_z (u := ()) hx hb hr (by first | rfl | exact bI_nar _) hlocks hP hD hS dX4_isTrip_45 ?_ ?_
        · rfl
        · first | exact bI_t (tripB_ok (by assumption) (by assumption) (by assumption) (by assumption)) | exact bI_f (tripB_f1 (by assumption)) | exact bI_f (tripB_f2 (by assumption)) | exact bI_f (tripB_f3 (by assumption)) | exact bI_f (tripB_f4 (by assumption))
      · have c_6 := bI_n0.mp c_6
        refine lv_iload_n hx hb dX4_isTrip_30 rfl (lv_at hl 3 rfl) ?_
        refine lv_iconst (v := 1) hx hb dX4_isTrip_31 (by decide) ?_
        refine lv_bipush (v := 99) hx hb dX4_isTrip_32 (by decide) ?_
        refine k_i (va_runS (As := [.int ee, .int 1, .int 99]) (rest := []) ⟨hx, hb, hml, hown, hts⟩ (c_X4_within l D cI cB cO H.size ee 1 99 ) (va_cwS 3 hts gX4_isTrip_X4_within rfl rfl rfl (by decide +kernel) ⟨Nat.le_of_ble_eq_true rfl, Nat.le_of_ble_eq_true rfl⟩) (preS_of hK hP hD hS hA hSt [] (by decide) rfl) rfl rfl hl.1 rfl (lv_room (Nat.le_of_ble_eq_true rfl)) dX4_isTrip_34 ⟨Nat.le_of_ble_eq_true rfl, Nat.le_of_ble_eq_true rfl⟩) hP hD hS hA [] [] [] [] (fun (u_7 : Unit) => []) rfl rfl (by decide) (by decide) (by decide) (fun _ => rfl) (fun r_7 u_7 H locs q_7 hP hD hS => ?_)
        obtain rfl : r_7 = bI (inR ee 1 99) := q_7
        refine lv_if_eq (tgt := 44) hx hb dX4_isTrip_37 (by decide) (fun c_8 => ?_) (fun c_8 => ?_)
        · have c_8 := bI_0.mp c_8
          refine lv_iconst (v := 0) hx hb dX4_isTrip_44 (by decide) ?_
          refine e_z (u := ()) hx hb hr (by first | rfl | exact bI_nar _) hlocks hP hD hS dX4_isTrip_45 ?_ ?_
          · rfl
          · first | exact bI_t (tripB_ok (by assumption) (by assumption) (by assumption) (by assumption)) | exact bI_f (tripB_f1 (by assumption)) | exact bI_f (tripB_f2 (by assumption)) | exact bI_f (tripB_f3 (by assumption)) | exact bI_f (tripB_f4 (by assumption))
        · have c_8 := bI_n0.mp c_8
          refine lv_iconst (v := 1) hx hb dX4_isTrip_40 (by decide) ?_
          refine lv_goto (tgt := 45) hx hb dX4_isTrip_41 (by decide) ?_
          refine e_z (u := ()) hx hb hr (by first | rfl | exact bI_nar _) hlocks hP hD hS dX4_isTrip_45 ?_ ?_
          · rfl
          · first | exact bI_t (tripB_ok (by assumption) (by assumption) (by assumption) (by assumption)) | exact bI_f (tripB_f1 (by assumption)) | exact bI_f (tripB_f2 (by assumption)) | exact bI_f (tripB_f3 (by assumption)) | exact bI_f (tripB_f4 (by assumption))
set_option maxHeartbeats 4000000 in
set_option maxRecDepth 100000 in
theorem c_X4_broughtInHour (l : Launch) (D : va_G) (cI cB cO : ClassId) (sz : Nat) (kk vv aa dd ee : Int32) (h1 : ¬ (aa + 2 * dd) + ee = 0) (h2 : ¬ aa = 0) : CI l yX4_broughtInHour wsX4_broughtInHour ({ frames := 1, cells := 0, slots := 0, locals := 21 } : Room) D (tyL cI cB cO) [.int kk, .int vv, .int aa, .int dd, .int ee] [] sz (fun (r : Int32) (_ : Unit) => r = brings kk vv aa dd ee) (fun (u : Unit) => []) 0 0 := by
  refine ct_of (cc := cX4_broughtInHour) (maxL := 5) (ret := some .int) (own := RX4) (Qc := QI D (fun (r : Int32) (_ : Unit) => r = brings kk vv aa dd ee) (fun (u : Unit) => [])) (by decide) rfl rfl (Nat.le_of_ble_eq_true rfl) ?_
  intro pM eM sM mM below meth cM AM ls H locs hx hb hr hts hown hlocks hml hin hK hP hD hS hA hSt hl
  have hl : lv_has ls 5 [(0, .int kk), (1, .int vv), (2, .int aa), (3, .int dd), (4, .int ee)] := hl
  refine lv_bipush (v := 60) hx hb dX4_broughtInHour_0 (by decide) ?_
  refine lv_iload_n hx hb dX4_broughtInHour_2 rfl (lv_at hl 0 rfl) ?_
  refine lv_imul hx hb dX4_broughtInHour_3 ?_
  refine lv_iload_n hx hb dX4_broughtInHour_4 rfl (lv_at hl 1 rfl) ?_
  refine lv_imul hx hb dX4_broughtInHour_5 ?_
  refine lv_iload_n hx hb dX4_broughtInHour_6 rfl (lv_at hl 2 rfl) ?_
  refine lv_iconst (v := 2) hx hb dX4_broughtInHour_7 (by decide) ?_
  refine lv_iload_n hx hb dX4_broughtInHour_8 rfl (lv_at hl 3 rfl) ?_
  refine lv_imul hx hb dX4_broughtInHour_9 ?_
  refine lv_iadd hx hb dX4_broughtInHour_10 ?_
  refine lv_iload hx hb dX4_broughtInHour_11 (lv_at hl 4 rfl) ?_
  refine lv_iadd hx hb dX4_broughtInHour_13 ?_
  refine lv_idiv hx hb dX4_broughtInHour_14 h1 ?_
  refine lv_bipush (v := 60) hx hb dX4_broughtInHour_15 (by decide) ?_
  refine lv_iload_n hx hb dX4_broughtInHour_17 rfl (lv_at hl 1 rfl) ?_
  refine lv_imul hx hb dX4_broughtInHour_18 ?_
  refine lv_iload_n hx hb dX4_broughtInHour_19 rfl (lv_at hl 2 rfl) ?_
  refine lv_idiv hx hb dX4_broughtInHour_20 h2 ?_
  refine va_mmin hx hb (by rw [hml]; exact hl.1.symm) hown (hts (.methodLink RX4 223 Lib.Math.min.name) (List.mem_of_getElem? (i := 1) (by decide +kernel))) (hts (.static Lib.Math.min.name) (List.mem_of_getElem? (i := 2) (by decide +kernel))) (hts (.initialized RJ9) (List.mem_of_getElem? (i := 3) (by decide +kernel))) (hts _ (List.mem_of_getElem? (i := 4) rfl)) (Nat.le_of_ble_eq_true rfl) (Nat.le_of_ble_eq_true rfl) (Nat.le_of_ble_eq_true rfl) (Nat.le_of_ble_eq_true rfl) dX4_broughtInHour_21 ?_
  refine e_i (u := ()) hx hb hr hlocks hP hD hS dX4_broughtInHour_24 ?_ ?_
  · rfl
  · rfl
set_option maxHeartbeats 4000000 in
set_option maxRecDepth 100000 in
theorem c_X4_shuttle (l : Launch) (D : va_G) (cI cB cO : ClassId) (sz : Nat) (x0 h0 k0 sA t0 w0 s0 nx sl : Nat) (rb rn rf : Int32) (kk vv aa dd ee : Int32)  : CI l yX4_shuttle wsX4_shuttle ({ frames := 2, cells := 0, slots := 0, locals := 45 } : Room) D (tyL cI cB cO) [.ref x0, .int kk, .int vv, .int aa, .int dd, .int ee] [(x0, .inr (4, [.ref h0, .ref k0, .ref sA, .int (nI nx), .int (nI sl), .int rb, .int rn, .int rf, .ref t0, .ref w0, .ref s0]))] sz (fun (r : Int32) (_ : Unit) => r = rB (okShut kk vv aa dd ee) (brings kk vv aa dd ee)) (fun (u : Unit) => [(x0, .inr (4, [.ref h0, .ref k0, .ref sA, .int (nI nx), .int (nI sl), .int (bR (okShut kk vv aa dd ee) rb), .int rn, .int rf, .ref t0, .ref w0, .ref s0]))]) 0 0 := by
  refine ct_of (cc := cX4_shuttle) (maxL := 6) (ret := some .int) (own := RX4) (Qc := QI D (fun (r : Int32) (_ : Unit) => r = rB (okShut kk vv aa dd ee) (brings kk vv aa dd ee)) (fun (u : Unit) => [(x0, .inr (4, [.ref h0, .ref k0, .ref sA, .int (nI nx), .int (nI sl), .int (bR (okShut kk vv aa dd ee) rb), .int rn, .int rf, .ref t0, .ref w0, .ref s0]))])) (by decide) rfl rfl (Nat.le_of_ble_eq_true rfl) ?_
  intro pM eM sM mM below meth cM AM ls H locs hx hb hr hts hown hlocks hml hin hK hP hD hS hA hSt hl
  have hl : lv_has ls 6 [(0, .ref x0), (1, .int kk), (2, .int vv), (3, .int aa), (4, .int dd), (5, .int ee)] := hl
  refine lv_iload_n hx hb dX4_shuttle_0 rfl (lv_at hl 1 rfl) ?_
  refine lv_iconst (v := 1) hx hb dX4_shuttle_1 (by decide) ?_
  refine lv_bipush (v := 20) hx hb dX4_shuttle_2 (by decide) ?_
  refine k_i (va_runS (As := [.int kk, .int 1, .int 20]) (rest := []) ⟨hx, hb, hml, hown, hts⟩ (c_X4_within l D cI cB cO H.size kk 1 20 ) (va_cwS 3 hts gX4_shuttle_X4_within rfl rfl rfl (by decide +kernel) ⟨Nat.le_of_ble_eq_true rfl, Nat.le_of_ble_eq_true rfl⟩) (preS_of hK hP hD hS hA hSt [] (by decide) rfl) rfl rfl hl.1 rfl (lv_room (Nat.le_of_ble_eq_true rfl)) dX4_shuttle_4 ⟨Nat.le_of_ble_eq_true rfl, Nat.le_of_ble_eq_true rfl⟩) hP hD hS hA [] [0] [0] [(x0, .inr (4, [.ref h0, .ref k0, .ref sA, .int (nI nx), .int (nI sl), .int rb, .int rn, .int rf, .ref t0, .ref w0, .ref s0]))] (fun (u_1 : Unit) => [(x0, .inr (4, [.ref h0, .ref k0, .ref sA, .int (nI nx), .int (nI sl), .int rb, .int rn, .int rf, .ref t0, .ref w0, .ref s0]))]) rfl rfl (by decide) (by decide) (by decide) (fun _ => rfl) (fun r_1 u_1 H locs q_1 hP hD hS => ?_)
  obtain rfl : r_1 = bI (inR kk 1 20) := q_1
  refine lv_if_eq (tgt := 22) hx hb dX4_shuttle_7 (by decide) (fun c_2 => ?_) (fun c_2 => ?_)
  · have c_2 := bI_0.mp c_2
    refine lv_aload_n hx hb dX4_shuttle_22 rfl (lv_at hl 0 rfl) ?_
    refine lv_ldc (v := -1000002) hx hb hown (hts (.constant RX4 118 (-1000002)) (List.mem_of_getElem? (i := 1) (by decide +kernel))) dX4_shuttle_23 ?_
    refine k_i (va_runV (As := [.int (-1000002)]) (rest := []) ⟨hx, hb, hml, hown, hts⟩ (c_X4_counted l D cI cB cO H.size x0 h0 k0 sA t0 w0 s0 nx sl rb rn rf (-1000002) ) (cwV 1 hts gX4_shuttle_X4_counted rfl rfl rfl (by decide +kernel) ⟨Nat.le_of_ble_eq_true rfl, Nat.le_of_ble_eq_true rfl⟩) (preV_of hK hP hD hS hA hSt [0] (by decide) rfl 0 (ci := 4) rfl rfl) rfl rfl hl.1 rfl (lv_room (Nat.le_of_ble_eq_true rfl)) dX4_shuttle_25 ⟨Nat.le_of_ble_eq_true rfl, Nat.le_of_ble_eq_true rfl⟩) hP hD hS hA [0] [] [0] [] (fun (u_3 : Unit) => [(x0, .inr (4, [.ref h0, .ref k0, .ref sA, .int (nI nx), .int (nI sl), .int (uB (-1000002) rb), .int (uN (-1000002) rn), .int (uF (-1000002) rf), .ref t0, .ref w0, .ref s0]))]) rfl rfl (by decide) (by decide) (by decide) (fun _ => rfl) (fun r_3 u_3 H locs q_3 hP hD hS => ?_)
    obtain rfl : r_3 = -1000002 := q_3
    rw [show (.int (uB (-1000002) rb) : Value) = .int (bR (okShut kk vv aa dd ee) rb) from congrArg Value.int ((uB_B rb).trans (bR_f (by first | assumption | exact and_f1 (by assumption) | exact and_f2 (by assumption))))] at hP hD
    have hP : va_P D vwCl [(x0, .inr (4, [.ref h0, .ref k0, .ref sA, .int (nI nx), .int (nI sl), .int (bR (okShut kk vv aa dd ee) rb), .int (uN (-1000002) rn), .int (uF (-1000002) rf), .ref t0, .ref w0, .ref s0]))] H := hP
    have hD : va_D AM [(x0, .inr (4, [.ref h0, .ref k0, .ref sA, .int (nI nx), .int (nI sl), .int (bR (okShut kk vv aa dd ee) rb), .int (uN (-1000002) rn), .int (uF (-1000002) rf), .ref t0, .ref w0, .ref s0]))] := hD
    rw [show (.int (uN (-1000002) rn) : Value) = .int rn from congrArg Value.int (uN_B rn)] at hP hD
    have hP : va_P D vwCl [(x0, .inr (4, [.ref h0, .ref k0, .ref sA, .int (nI nx), .int (nI sl), .int (bR (okShut kk vv aa dd ee) rb), .int rn, .int (uF (-1000002) rf), .ref t0, .ref w0, .ref s0]))] H := hP
    have hD : va_D AM [(x0, .inr (4, [.ref h0, .ref k0, .ref sA, .int (nI nx), .int (nI sl), .int (bR (okShut kk vv aa dd ee) rb), .int rn, .int (uF (-1000002) rf), .ref t0, .ref w0, .ref s0]))] := hD
    rw [show (.int (uF (-1000002) rf) : Value) = .int rf from congrArg Value.int (uF_B rf)] at hP hD
    have hP : va_P D vwCl [(x0, .inr (4, [.ref h0, .ref k0, .ref sA, .int (nI nx), .int (nI sl), .int (bR (okShut kk vv aa dd ee) rb), .int rn, .int rf, .ref t0, .ref w0, .ref s0]))] H := hP
    have hD : va_D AM [(x0, .inr (4, [.ref h0, .ref k0, .ref sA, .int (nI nx), .int (nI sl), .int (bR (okShut kk vv aa dd ee) rb), .int rn, .int rf, .ref t0, .ref w0, .ref s0]))] := hD
    refine e_i (u := ()) hx hb hr hlocks hP hD hS dX4_shuttle_28 ?_ ?_
    · rfl
    · exact rB_f (by first | assumption | exact and_f1 (by assumption) | exact and_f2 (by assumption))
  · have c_2 := bI_n0.mp c_2
    refine lv_iload_n hx hb dX4_shuttle_10 rfl (lv_at hl 2 rfl) ?_
    refine lv_iload_n hx hb dX4_shuttle_11 rfl (lv_at hl 3 rfl) ?_
    refine lv_iload hx hb dX4_shuttle_12 (lv_at hl 4 rfl) ?_
    refine lv_iload hx hb dX4_shuttle_14 (lv_at hl 5 rfl) ?_
    refine k_i (va_runS (As := [.int vv, .int aa, .int dd, .int ee]) (rest := []) ⟨hx, hb, hml, hown, hts⟩ (c_X4_isTrip l D cI cB cO H.size vv aa dd ee ) (va_cwS 4 hts gX4_shuttle_X4_isTrip rfl rfl rfl (by decide +kernel) ⟨Nat.le_of_ble_eq_true rfl, Nat.le_of_ble_eq_true rfl⟩) (preS_of hK hP hD hS hA hSt [] (by decide) rfl) rfl rfl hl.1 rfl (lv_room (Nat.le_of_ble_eq_true rfl)) dX4_shuttle_16 ⟨Nat.le_of_ble_eq_true rfl, Nat.le_of_ble_eq_true rfl⟩) hP hD hS hA [] [0] [0] [(x0, .inr (4, [.ref h0, .ref k0, .ref sA, .int (nI nx), .int (nI sl), .int rb, .int rn, .int rf, .ref t0, .ref w0, .ref s0]))] (fun (u_4 : Unit) => [(x0, .inr (4, [.ref h0, .ref k0, .ref sA, .int (nI nx), .int (nI sl), .int rb, .int rn, .int rf, .ref t0, .ref w0, .ref s0]))]) rfl rfl (by decide) (by decide) (by decide) (fun _ => rfl) (fun r_4 u_4 H locs q_4 hP hD hS => ?_)
    obtain rfl : r_4 = bI (tripB vv aa dd ee) := q_4
    refine lv_if_ne (tgt := 29) hx hb dX4_shuttle_19 (by decide) (fun c_5 => ?_) (fun c_5 => ?_)
    · have c_5 := bI_n0.mp c_5
      have htr := c_5
      refine lv_iload_n hx hb dX4_shuttle_29 rfl (lv_at hl 1 rfl) ?_
      refine lv_iload_n hx hb dX4_shuttle_30 rfl (lv_at hl 2 rfl) ?_
      refine lv_iload_n hx hb dX4_shuttle_31 rfl (lv_at hl 3 rfl) ?_
      refine lv_iload hx hb dX4_shuttle_32 (lv_at hl 4 rfl) ?_
      refine lv_iload hx hb dX4_shuttle_34 (lv_at hl 5 rfl) ?_
      refine k_i (va_runS (As := [.int kk, .int vv, .int aa, .int dd, .int ee]) (rest := []) ⟨hx, hb, hml, hown, hts⟩ (c_X4_broughtInHour l D cI cB cO H.size kk vv aa dd ee (by exact trip_n (tripB_t htr).2.1 (tripB_t htr).2.2.1 (tripB_t htr).2.2.2) (by exact trip_a (tripB_t htr).2.1)) (va_cwS 5 hts gX4_shuttle_X4_broughtInHour rfl rfl rfl (by decide +kernel) ⟨Nat.le_of_ble_eq_true rfl, Nat.le_of_ble_eq_true rfl⟩) (preS_of hK hP hD hS hA hSt [] (by decide) rfl) rfl rfl hl.1 rfl (lv_room (Nat.le_of_ble_eq_true rfl)) dX4_shuttle_36 ⟨Nat.le_of_ble_eq_true rfl, Nat.le_of_ble_eq_true rfl⟩) hP hD hS hA [] [0] [0] [(x0, .inr (4, [.ref h0, .ref k0, .ref sA, .int (nI nx), .int (nI sl), .int rb, .int rn, .int rf, .ref t0, .ref w0, .ref s0]))] (fun (u_6 : Unit) => [(x0, .inr (4, [.ref h0, .ref k0, .ref sA, .int (nI nx), .int (nI sl), .int rb, .int rn, .int rf, .ref t0, .ref w0, .ref s0]))]) rfl rfl (by decide) (by decide) (by decide) (fun _ => rfl) (fun r_6 u_6 H locs q_6 hP hD hS => ?_)
      obtain rfl : r_6 = brings kk vv aa dd ee := q_6
      rw [show (.int rb : Value) = .int (bR (okShut kk vv aa dd ee) rb) from congrArg Value.int (bR_t (by first | assumption | exact and_t2 (by assumption) (by assumption)))] at hP hD
      have hP : va_P D vwCl [(x0, .inr (4, [.ref h0, .ref k0, .ref sA, .int (nI nx), .int (nI sl), .int (bR (okShut kk vv aa dd ee) rb), .int rn, .int rf, .ref t0, .ref w0, .ref s0]))] H := hP
      have hD : va_D AM [(x0, .inr (4, [.ref h0, .ref k0, .ref sA, .int (nI nx), .int (nI sl), .int (bR (okShut kk vv aa dd ee) rb), .int rn, .int rf, .ref t0, .ref w0, .ref s0]))] := hD
      refine e_i (u := ()) hx hb hr hlocks hP hD hS dX4_shuttle_39 ?_ ?_
      · rfl
      · exact rB_t (by first | assumption | exact and_t2 (by assumption) (by assumption))
    · have c_5 := bI_0.mp c_5
      refine lv_aload_n hx hb dX4_shuttle_22 rfl (lv_at hl 0 rfl) ?_
      refine lv_ldc (v := -1000002) hx hb hown (hts (.constant RX4 118 (-1000002)) (List.mem_of_getElem? (i := 1) (by decide +kernel))) dX4_shuttle_23 ?_
      refine k_i (va_runV (As := [.int (-1000002)]) (rest := []) ⟨hx, hb, hml, hown, hts⟩ (c_X4_counted l D cI cB cO H.size x0 h0 k0 sA t0 w0 s0 nx sl rb rn rf (-1000002) ) (cwV 1 hts gX4_shuttle_X4_counted rfl rfl rfl (by decide +kernel) ⟨Nat.le_of_ble_eq_true rfl, Nat.le_of_ble_eq_true rfl⟩) (preV_of hK hP hD hS hA hSt [0] (by decide) rfl 0 (ci := 4) rfl rfl) rfl rfl hl.1 rfl (lv_room (Nat.le_of_ble_eq_true rfl)) dX4_shuttle_25 ⟨Nat.le_of_ble_eq_true rfl, Nat.le_of_ble_eq_true rfl⟩) hP hD hS hA [0] [] [0] [] (fun (u_7 : Unit) => [(x0, .inr (4, [.ref h0, .ref k0, .ref sA, .int (nI nx), .int (nI sl), .int (uB (-1000002) rb), .int (uN (-1000002) rn), .int (uF (-1000002) rf), .ref t0, .ref w0, .ref s0]))]) rfl rfl (by decide) (by decide) (by decide) (fun _ => rfl) (fun r_7 u_7 H locs q_7 hP hD hS => ?_)
      obtain rfl : r_7 = -1000002 := q_7
      rw [show (.int (uB (-1000002) rb) : Value) = .int (bR (okShut kk vv aa dd ee) rb) from congrArg Value.int ((uB_B rb).trans (bR_f (by first | assumption | exact and_f1 (by assumption) | exact and_f2 (by assumption))))] at hP hD
      have hP : va_P D vwCl [(x0, .inr (4, [.ref h0, .ref k0, .ref sA, .int (nI nx), .int (nI sl), .int (bR (okShut kk vv aa dd ee) rb), .int (uN (-1000002) rn), .int (uF (-1000002) rf), .ref t0, .ref w0, .ref s0]))] H := hP
      have hD : va_D AM [(x0, .inr (4, [.ref h0, .ref k0, .ref sA, .int (nI nx), .int (nI sl), .int (bR (okShut kk vv aa dd ee) rb), .int (uN (-1000002) rn), .int (uF (-1000002) rf), .ref t0, .ref w0, .ref s0]))] := hD
      rw [show (.int (uN (-1000002) rn) : Value) = .int rn from congrArg Value.int (uN_B rn)] at hP hD
      have hP : va_P D vwCl [(x0, .inr (4, [.ref h0, .ref k0, .ref sA, .int (nI nx), .int (nI sl), .int (bR (okShut kk vv aa dd ee) rb), .int rn, .int (uF (-1000002) rf), .ref t0, .ref w0, .ref s0]))] H := hP
      have hD : va_D AM [(x0, .inr (4, [.ref h0, .ref k0, .ref sA, .int (nI nx), .int (nI sl), .int (bR (okShut kk vv aa dd ee) rb), .int rn, .int (uF (-1000002) rf), .ref t0, .ref w0, .ref s0]))] := hD
      rw [show (.int (uF (-1000002) rf) : Value) = .int rf from congrArg Value.int (uF_B rf)] at hP hD
      have hP : va_P D vwCl [(x0, .inr (4, [.ref h0, .ref k0, .ref sA, .int (nI nx), .int (nI sl), .int (bR (okShut kk vv aa dd ee) rb), .int rn, .int rf, .ref t0, .ref w0, .ref s0]))] H := hP
      have hD : va_D AM [(x0, .inr (4, [.ref h0, .ref k0, .ref sA, .int (nI nx), .int (nI sl), .int (bR (okShut kk vv aa dd ee) rb), .int rn, .int rf, .ref t0, .ref w0, .ref s0]))] := hD
      refine e_i (u := ()) hx hb hr hlocks hP hD hS dX4_shuttle_28 ?_ ?_
      · rfl
      · exact rB_f (by first | assumption | exact and_f1 (by assumption) | exact and_f2 (by assumption))
set_option maxHeartbeats 4000000 in
set_option maxRecDepth 100000 in
theorem c_X4_tanks (l : Launch) (D : va_G) (cI cB cO : ClassId) (sz : Nat) (x0 h0 k0 sA t0 w0 s0 nx sl : Nat) (rb rn rf : Int32) (w vv aa dd ee : Int32)  : CI l yX4_tanks wsX4_tanks ({ frames := 2, cells := 0, slots := 0, locals := 45 } : Room) D (tyL cI cB cO) [.ref x0, .int w, .int vv, .int aa, .int dd, .int ee] [(x0, .inr (4, [.ref h0, .ref k0, .ref sA, .int (nI nx), .int (nI sl), .int rb, .int rn, .int rf, .ref t0, .ref w0, .ref s0]))] sz (fun (r : Int32) (_ : Unit) => r = rB (okTank w vv aa dd ee) (tkI w vv aa dd ee 20 1)) (fun (u : Unit) => [(x0, .inr (4, [.ref h0, .ref k0, .ref sA, .int (nI nx), .int (nI sl), .int (bR (okTank w vv aa dd ee) rb), .int rn, .int rf, .ref t0, .ref w0, .ref s0]))]) 0 0 := by
  refine ct_of (cc := cX4_tanks) (maxL := 7) (ret := some .int) (own := RX4) (Qc := QI D (fun (r : Int32) (_ : Unit) => r = rB (okTank w vv aa dd ee) (tkI w vv aa dd ee 20 1)) (fun (u : Unit) => [(x0, .inr (4, [.ref h0, .ref k0, .ref sA, .int (nI nx), .int (nI sl), .int (bR (okTank w vv aa dd ee) rb), .int rn, .int rf, .ref t0, .ref w0, .ref s0]))])) (by decide) rfl rfl (Nat.le_of_ble_eq_true rfl) ?_
  intro pM eM sM mM below meth cM AM ls H locs hx hb hr hts hown hlocks hml hin hK hP hD hS hA hSt hl
  have hl : lv_has ls 7 [(0, .ref x0), (1, .int w), (2, .int vv), (3, .int aa), (4, .int dd), (5, .int ee)] := hl
  refine lv_iload_n hx hb dX4_tanks_0 rfl (lv_at hl 1 rfl) ?_
  refine lv_iconst (v := 1) hx hb dX4_tanks_1 (by decide) ?_
  refine lv_sipush (v := 9999) hx hb dX4_tanks_2 (by decide) ?_
  refine k_i (va_runS (As := [.int w, .int 1, .int 9999]) (rest := []) ⟨hx, hb, hml, hown, hts⟩ (c_X4_within l D cI cB cO H.size w 1 9999 ) (va_cwS 3 hts gX4_tanks_X4_within rfl rfl rfl (by decide +kernel) ⟨Nat.le_of_ble_eq_true rfl, Nat.le_of_ble_eq_true rfl⟩) (preS_of hK hP hD hS hA hSt [] (by decide) rfl) rfl rfl hl.1 rfl (lv_room (Nat.le_of_ble_eq_true rfl)) dX4_tanks_5 ⟨Nat.le_of_ble_eq_true rfl, Nat.le_of_ble_eq_true rfl⟩) hP hD hS hA [] [0] [0] [(x0, .inr (4, [.ref h0, .ref k0, .ref sA, .int (nI nx), .int (nI sl), .int rb, .int rn, .int rf, .ref t0, .ref w0, .ref s0]))] (fun (u_1 : Unit) => [(x0, .inr (4, [.ref h0, .ref k0, .ref sA, .int (nI nx), .int (nI sl), .int rb, .int rn, .int rf, .ref t0, .ref w0, .ref s0]))]) rfl rfl (by decide) (by decide) (by decide) (fun _ => rfl) (fun r_1 u_1 H locs q_1 hP hD hS => ?_)
  obtain rfl : r_1 = bI (inR w 1 9999) := q_1
  refine lv_if_eq (tgt := 23) hx hb dX4_tanks_8 (by decide) (fun c_2 => ?_) (fun c_2 => ?_)
  · have c_2 := bI_0.mp c_2
    refine lv_aload_n hx hb dX4_tanks_23 rfl (lv_at hl 0 rfl) ?_
    refine lv_ldc (v := -1000002) hx hb hown (hts (.constant RX4 118 (-1000002)) (List.mem_of_getElem? (i := 1) (by decide +kernel))) dX4_tanks_24 ?_
    refine k_i (va_runV (As := [.int (-1000002)]) (rest := []) ⟨hx, hb, hml, hown, hts⟩ (c_X4_counted l D cI cB cO H.size x0 h0 k0 sA t0 w0 s0 nx sl rb rn rf (-1000002) ) (cwV 1 hts gX4_tanks_X4_counted rfl rfl rfl (by decide +kernel) ⟨Nat.le_of_ble_eq_true rfl, Nat.le_of_ble_eq_true rfl⟩) (preV_of hK hP hD hS hA hSt [0] (by decide) rfl 0 (ci := 4) rfl rfl) rfl rfl hl.1 rfl (lv_room (Nat.le_of_ble_eq_true rfl)) dX4_tanks_26 ⟨Nat.le_of_ble_eq_true rfl, Nat.le_of_ble_eq_true rfl⟩) hP hD hS hA [0] [] [0] [] (fun (u_3 : Unit) => [(x0, .inr (4, [.ref h0, .ref k0, .ref sA, .int (nI nx), .int (nI sl), .int (uB (-1000002) rb), .int (uN (-1000002) rn), .int (uF (-1000002) rf), .ref t0, .ref w0, .ref s0]))]) rfl rfl (by decide) (by decide) (by decide) (fun _ => rfl) (fun r_3 u_3 H locs q_3 hP hD hS => ?_)
    obtain rfl : r_3 = -1000002 := q_3
    rw [show (.int (uB (-1000002) rb) : Value) = .int (bR (okTank w vv aa dd ee) rb) from congrArg Value.int ((uB_B rb).trans (bR_f (by first | assumption | exact and_f1 (by assumption) | exact and_f2 (by assumption))))] at hP hD
    have hP : va_P D vwCl [(x0, .inr (4, [.ref h0, .ref k0, .ref sA, .int (nI nx), .int (nI sl), .int (bR (okTank w vv aa dd ee) rb), .int (uN (-1000002) rn), .int (uF (-1000002) rf), .ref t0, .ref w0, .ref s0]))] H := hP
    have hD : va_D AM [(x0, .inr (4, [.ref h0, .ref k0, .ref sA, .int (nI nx), .int (nI sl), .int (bR (okTank w vv aa dd ee) rb), .int (uN (-1000002) rn), .int (uF (-1000002) rf), .ref t0, .ref w0, .ref s0]))] := hD
    rw [show (.int (uN (-1000002) rn) : Value) = .int rn from congrArg Value.int (uN_B rn)] at hP hD
    have hP : va_P D vwCl [(x0, .inr (4, [.ref h0, .ref k0, .ref sA, .int (nI nx), .int (nI sl), .int (bR (okTank w vv aa dd ee) rb), .int rn, .int (uF (-1000002) rf), .ref t0, .ref w0, .ref s0]))] H := hP
    have hD : va_D AM [(x0, .inr (4, [.ref h0, .ref k0, .ref sA, .int (nI nx), .int (nI sl), .int (bR (okTank w vv aa dd ee) rb), .int rn, .int (uF (-1000002) rf), .ref t0, .ref w0, .ref s0]))] := hD
    rw [show (.int (uF (-1000002) rf) : Value) = .int rf from congrArg Value.int (uF_B rf)] at hP hD
    have hP : va_P D vwCl [(x0, .inr (4, [.ref h0, .ref k0, .ref sA, .int (nI nx), .int (nI sl), .int (bR (okTank w vv aa dd ee) rb), .int rn, .int rf, .ref t0, .ref w0, .ref s0]))] H := hP
    have hD : va_D AM [(x0, .inr (4, [.ref h0, .ref k0, .ref sA, .int (nI nx), .int (nI sl), .int (bR (okTank w vv aa dd ee) rb), .int rn, .int rf, .ref t0, .ref w0, .ref s0]))] := hD
    refine e_i (u := ()) hx hb hr hlocks hP hD hS dX4_tanks_29 ?_ ?_
    · rfl
    · exact rB_f (by first | assumption | exact and_f1 (by assumption) | exact and_f2 (by assumption))
  · have c_2 := bI_n0.mp c_2
    refine lv_iload_n hx hb dX4_tanks_11 rfl (lv_at hl 2 rfl) ?_
    refine lv_iload_n hx hb dX4_tanks_12 rfl (lv_at hl 3 rfl) ?_
    refine lv_iload hx hb dX4_tanks_13 (lv_at hl 4 rfl) ?_
    refine lv_iload hx hb dX4_tanks_15 (lv_at hl 5 rfl) ?_
    refine k_i (va_runS (As := [.int vv, .int aa, .int dd, .int ee]) (rest := []) ⟨hx, hb, hml, hown, hts⟩ (c_X4_isTrip l D cI cB cO H.size vv aa dd ee ) (va_cwS 4 hts gX4_tanks_X4_isTrip rfl rfl rfl (by decide +kernel) ⟨Nat.le_of_ble_eq_true rfl, Nat.le_of_ble_eq_true rfl⟩) (preS_of hK hP hD hS hA hSt [] (by decide) rfl) rfl rfl hl.1 rfl (lv_room (Nat.le_of_ble_eq_true rfl)) dX4_tanks_17 ⟨Nat.le_of_ble_eq_true rfl, Nat.le_of_ble_eq_true rfl⟩) hP hD hS hA [] [0] [0] [(x0, .inr (4, [.ref h0, .ref k0, .ref sA, .int (nI nx), .int (nI sl), .int rb, .int rn, .int rf, .ref t0, .ref w0, .ref s0]))] (fun (u_4 : Unit) => [(x0, .inr (4, [.ref h0, .ref k0, .ref sA, .int (nI nx), .int (nI sl), .int rb, .int rn, .int rf, .ref t0, .ref w0, .ref s0]))]) rfl rfl (by decide) (by decide) (by decide) (fun _ => rfl) (fun r_4 u_4 H locs q_4 hP hD hS => ?_)
    obtain rfl : r_4 = bI (tripB vv aa dd ee) := q_4
    refine lv_if_ne (tgt := 30) hx hb dX4_tanks_20 (by decide) (fun c_5 => ?_) (fun c_5 => ?_)
    · have c_5 := bI_n0.mp c_5
      have htr := c_5
      refine lv_iconst (v := 1) hx hb dX4_tanks_30 (by decide) ?_
      refine lv_istore (lv' := [(6, .int 1), (0, .ref x0), (1, .int w), (2, .int vv), (3, .int aa), (4, .int dd), (5, .int ee)]) hx hb dX4_tanks_31 hl (by decide) rfl (fun ls hl => ?_)
      have lp_6 : ∀ (nn : Nat) (k : Nat), (k ≤ 21) → (tkI w vv aa dd ee (21 - k) k = tkI w vv aa dd ee 20 1) → (21 - k) < nn → ∀ (H : Heap) (locs : List Loc), va_P D vwCl [(x0, .inr (4, [.ref h0, .ref k0, .ref sA, .int (nI nx), .int (nI sl), .int rb, .int rn, .int rf, .ref t0, .ref w0, .ref s0]))] H → va_D AM [(x0, .inr (4, [.ref h0, .ref k0, .ref sA, .int (nI nx), .int (nI sl), .int rb, .int rn, .int rf, .ref t0, .ref w0, .ref s0]))] → va_S AM sM.heap H locs → ∀ (ls : Array Slot), lv_has ls 7 [(0, .ref x0), (1, .int w), (2, .int vv), (3, .int aa), (4, .int dd), (5, .int ee), (6, .int (nI k))] → W pM l eM ({ frames := 2, cells := 0, slots := 0, locals := 45 } : Room) sM mM ([.ref x0, .int w, .int vv, .int aa, .int dd, .int ee] : List Value).toArray below meth cM H locs 0 0 (MQ below (QI D (fun (r : Int32) (_ : Unit) => r = rB (okTank w vv aa dd ee) (tkI w vv aa dd ee 20 1)) (fun (u : Unit) => [(x0, .inr (4, [.ref h0, .ref k0, .ref sA, .int (nI nx), .int (nI sl), .int (bR (okTank w vv aa dd ee) rb), .int rn, .int rf, .ref t0, .ref w0, .ref s0]))]) AM) ([.ref x0, .int w, .int vv, .int aa, .int dd, .int ee] : List Value).toArray sM 0 0 AM) (F0 mM 33 ls []) := by
        intro nn
        induction nn with
        | zero =>
          intro k hk hI hm
          exact absurd hm (Nat.not_lt_zero _)
        | succ nn ih_7 =>
          intro k hk hI hm H locs hP hD hS ls hl
          refine lv_iload hx hb dX4_tanks_33 (lv_at hl 6 rfl) ?_
          refine lv_bipush (v := 20) hx hb dX4_tanks_35 (by decide) ?_
          refine lv_icmp_gt (tgt := 64) hx hb dX4_tanks_37 (by decide) (fun c_8 => ?_) (fun c_8 => ?_)
          · have c_8 : 20 < k := (nI_ltI (a := 20) (b := k) (by decide) (by omega)).mp c_8
            refine lv_ldc (v := -1000001) hx hb hown (hts (.constant RX4 147 (-1000001)) (List.mem_of_getElem? (i := 2) (by decide +kernel))) dX4_tanks_64 ?_
            rw [show (.int rb : Value) = .int (bR (okTank w vv aa dd ee) rb) from congrArg Value.int (bR_t (by first | assumption | exact and_t2 (by assumption) (by assumption)))] at hP hD
            have hP : va_P D vwCl [(x0, .inr (4, [.ref h0, .ref k0, .ref sA, .int (nI nx), .int (nI sl), .int (bR (okTank w vv aa dd ee) rb), .int rn, .int rf, .ref t0, .ref w0, .ref s0]))] H := hP
            have hD : va_D AM [(x0, .inr (4, [.ref h0, .ref k0, .ref sA, .int (nI nx), .int (nI sl), .int (bR (okTank w vv aa dd ee) rb), .int rn, .int rf, .ref t0, .ref w0, .ref s0]))] := hD
            refine e_i (u := ()) hx hb hr hlocks hP hD hS dX4_tanks_66 ?_ ?_
            · rfl
            · exact rB_t2 (by first | assumption | exact and_t2 (by assumption) (by assumption)) (by rw [show k = 21 by omega] at hI; exact hI)
          · have c_8 : k ≤ 20 := by have h := mt (nI_ltI (a := 20) (b := k) (by decide) (by omega)).mpr c_8; omega
            refine lv_iload hx hb dX4_tanks_40 (lv_at hl 6 rfl) ?_
            refine lv_iload_n hx hb dX4_tanks_42 rfl (lv_at hl 2 rfl) ?_
            refine lv_iload_n hx hb dX4_tanks_43 rfl (lv_at hl 3 rfl) ?_
            refine lv_iload hx hb dX4_tanks_44 (lv_at hl 4 rfl) ?_
            refine lv_iload hx hb dX4_tanks_46 (lv_at hl 5 rfl) ?_
            refine k_i (va_runS (As := [.int (nI k), .int vv, .int aa, .int dd, .int ee]) (rest := []) ⟨hx, hb, hml, hown, hts⟩ (c_X4_broughtInHour l D cI cB cO H.size (nI k) vv aa dd ee (by exact trip_n (tripB_t htr).2.1 (tripB_t htr).2.2.1 (tripB_t htr).2.2.2) (by exact trip_a (tripB_t htr).2.1)) (va_cwS 5 hts gX4_tanks_X4_broughtInHour rfl rfl rfl (by decide +kernel) ⟨Nat.le_of_ble_eq_true rfl, Nat.le_of_ble_eq_true rfl⟩) (preS_of hK hP hD hS hA hSt [] (by decide) rfl) rfl rfl hl.1 rfl (lv_room (Nat.le_of_ble_eq_true rfl)) dX4_tanks_48 ⟨Nat.le_of_ble_eq_true rfl, Nat.le_of_ble_eq_true rfl⟩) hP hD hS hA [] [0] [0] [(x0, .inr (4, [.ref h0, .ref k0, .ref sA, .int (nI nx), .int (nI sl), .int rb, .int rn, .int rf, .ref t0, .ref w0, .ref s0]))] (fun (u_9 : Unit) => [(x0, .inr (4, [.ref h0, .ref k0, .ref sA, .int (nI nx), .int (nI sl), .int rb, .int rn, .int rf, .ref t0, .ref w0, .ref s0]))]) rfl rfl (by decide) (by decide) (by decide) (fun _ => rfl) (fun r_9 u_9 H locs q_9 hP hD hS => ?_)
            obtain rfl : r_9 = brings (nI k) vv aa dd ee := q_9
            refine lv_iload_n hx hb dX4_tanks_51 rfl (lv_at hl 1 rfl) ?_
            refine lv_icmp_lt (tgt := 58) hx hb dX4_tanks_52 (by decide) (fun c_10 => ?_) (fun c_10 => ?_)
            · refine lv_iinc (v := nI (k + 1)) (lv' := [(6, .int (nI (k + 1))), (0, .ref x0), (1, .int w), (2, .int vv), (3, .int aa), (4, .int dd), (5, .int ee)]) hx hb dX4_tanks_58 hl (k := 6) rfl (nI_add k 1) (by decide) rfl (fun ls hl => ?_)
              refine lv_goto (tgt := 33) hx hb dX4_tanks_61 (by decide) ?_
              have hl9 : lv_has ls 7 [(0, .ref x0), (1, .int w), (2, .int vv), (3, .int aa), (4, .int dd), (5, .int ee), (6, .int (nI (k + 1)))] := lv_sub hl [1, 2, 3, 4, 5, 6, 0] rfl
              exact ih_7 (k + 1) (by first | assumption | omega) (by rw [tkI_s (by omega), if_pos (by assumption)] at hI; exact hI) (by omega) H locs hP hD hS ls hl9
            · refine lv_iload hx hb dX4_tanks_55 (lv_at hl 6 rfl) ?_
              rw [show (.int rb : Value) = .int (bR (okTank w vv aa dd ee) rb) from congrArg Value.int (bR_t (by first | assumption | exact and_t2 (by assumption) (by assumption)))] at hP hD
              have hP : va_P D vwCl [(x0, .inr (4, [.ref h0, .ref k0, .ref sA, .int (nI nx), .int (nI sl), .int (bR (okTank w vv aa dd ee) rb), .int rn, .int rf, .ref t0, .ref w0, .ref s0]))] H := hP
              have hD : va_D AM [(x0, .inr (4, [.ref h0, .ref k0, .ref sA, .int (nI nx), .int (nI sl), .int (bR (okTank w vv aa dd ee) rb), .int rn, .int rf, .ref t0, .ref w0, .ref s0]))] := hD
              refine e_i (u := ()) hx hb hr hlocks hP hD hS dX4_tanks_57 ?_ ?_
              · rfl
              · exact rB_t2 (by first | assumption | exact and_t2 (by assumption) (by assumption)) (by rw [tkI_s (by omega), if_neg (by assumption)] at hI; exact hI)
      have hl9 : lv_has ls 7 [(0, .ref x0), (1, .int w), (2, .int vv), (3, .int aa), (4, .int dd), (5, .int ee), (6, .int 1)] := lv_sub hl [1, 2, 3, 4, 5, 6, 0] rfl
      rw [show ([(0, .ref x0), (1, .int w), (2, .int vv), (3, .int aa), (4, .int dd), (5, .int ee), (6, .int 1)] : List (Nat × Value)) = [(0, .ref x0), (1, .int w), (2, .int vv), (3, .int aa), (4, .int dd), (5, .int ee), (6, .int (nI 1))] from rfl] at hl9
      exact lp_6 ((21 - 1) + 1) 1 (by first | assumption | omega) (by rfl) (Nat.lt_succ_self _) H locs hP hD hS ls hl9
    · have c_5 := bI_0.mp c_5
      refine lv_aload_n hx hb dX4_tanks_23 rfl (lv_at hl 0 rfl) ?_
      refine lv_ldc (v := -1000002) hx hb hown (hts (.constant RX4 118 (-1000002)) (List.mem_of_getElem? (i := 1) (by decide +kernel))) dX4_tanks_24 ?_
      refine k_i (va_runV (As := [.int (-1000002)]) (rest := []) ⟨hx, hb, hml, hown, hts⟩ (c_X4_counted l D cI cB cO H.size x0 h0 k0 sA t0 w0 s0 nx sl rb rn rf (-1000002) ) (cwV 1 hts gX4_tanks_X4_counted rfl rfl rfl (by decide +kernel) ⟨Nat.le_of_ble_eq_true rfl, Nat.le_of_ble_eq_true rfl⟩) (preV_of hK hP hD hS hA hSt [0] (by decide) rfl 0 (ci := 4) rfl rfl) rfl rfl hl.1 rfl (lv_room (Nat.le_of_ble_eq_true rfl)) dX4_tanks_26 ⟨Nat.le_of_ble_eq_true rfl, Nat.le_of_ble_eq_true rfl⟩) hP hD hS hA [0] [] [0] [] (fun (u_11 : Unit) => [(x0, .inr (4, [.ref h0, .ref k0, .ref sA, .int (nI nx), .int (nI sl), .int (uB (-1000002) rb), .int (uN (-1000002) rn), .int (uF (-1000002) rf), .ref t0, .ref w0, .ref s0]))]) rfl rfl (by decide) (by decide) (by decide) (fun _ => rfl) (fun r_11 u_11 H locs q_11 hP hD hS => ?_)
      obtain rfl : r_11 = -1000002 := q_11
      rw [show (.int (uB (-1000002) rb) : Value) = .int (bR (okTank w vv aa dd ee) rb) from congrArg Value.int ((uB_B rb).trans (bR_f (by first | assumption | exact and_f1 (by assumption) | exact and_f2 (by assumption))))] at hP hD
      have hP : va_P D vwCl [(x0, .inr (4, [.ref h0, .ref k0, .ref sA, .int (nI nx), .int (nI sl), .int (bR (okTank w vv aa dd ee) rb), .int (uN (-1000002) rn), .int (uF (-1000002) rf), .ref t0, .ref w0, .ref s0]))] H := hP
      have hD : va_D AM [(x0, .inr (4, [.ref h0, .ref k0, .ref sA, .int (nI nx), .int (nI sl), .int (bR (okTank w vv aa dd ee) rb), .int (uN (-1000002) rn), .int (uF (-1000002) rf), .ref t0, .ref w0, .ref s0]))] := hD
      rw [show (.int (uN (-1000002) rn) : Value) = .int rn from congrArg Value.int (uN_B rn)] at hP hD
      have hP : va_P D vwCl [(x0, .inr (4, [.ref h0, .ref k0, .ref sA, .int (nI nx), .int (nI sl), .int (bR (okTank w vv aa dd ee) rb), .int rn, .int (uF (-1000002) rf), .ref t0, .ref w0, .ref s0]))] H := hP
      have hD : va_D AM [(x0, .inr (4, [.ref h0, .ref k0, .ref sA, .int (nI nx), .int (nI sl), .int (bR (okTank w vv aa dd ee) rb), .int rn, .int (uF (-1000002) rf), .ref t0, .ref w0, .ref s0]))] := hD
      rw [show (.int (uF (-1000002) rf) : Value) = .int rf from congrArg Value.int (uF_B rf)] at hP hD
      have hP : va_P D vwCl [(x0, .inr (4, [.ref h0, .ref k0, .ref sA, .int (nI nx), .int (nI sl), .int (bR (okTank w vv aa dd ee) rb), .int rn, .int rf, .ref t0, .ref w0, .ref s0]))] H := hP
      have hD : va_D AM [(x0, .inr (4, [.ref h0, .ref k0, .ref sA, .int (nI nx), .int (nI sl), .int (bR (okTank w vv aa dd ee) rb), .int rn, .int rf, .ref t0, .ref w0, .ref s0]))] := hD
      refine e_i (u := ()) hx hb hr hlocks hP hD hS dX4_tanks_29 ?_ ?_
      · rfl
      · exact rB_f (by first | assumption | exact and_f1 (by assumption) | exact and_f2 (by assumption))
theorem in_X4_type_3 : ∀ w ∈ wsX30, w ∈ wsX4_type := fun _ h => List.mem_cons_of_mem _ (List.mem_append_right _ h)
theorem in_X4_type_4 : ∀ w ∈ wsX40, w ∈ wsX4_type := fun _ h => List.mem_cons_of_mem _ (List.mem_append_left _ (List.mem_append_right _ h))
set_option maxHeartbeats 4000000 in
set_option maxRecDepth 100000 in
theorem c_X4_type (l : Launch) (D : va_G) (cI cB cO : ClassId) (sz : Nat) (x0 h0 k0 sA t0 w0 s0 nx sl : Nat) (rb rn rf : Int32) (t1 t2 t3 N o a : Nat) (T : Nat → Int32) (c : Int32) (hN : N ≤ 120) : CI l yX4_type wsX4_type ({ frames := 1, cells := 0, slots := 0, locals := 22 } : Room) D (tyL cI cB cO) [.ref x0, .int c] [(x0, .inr (4, [.ref h0, .ref k0, .ref sA, .int (nI nx), .int (nI sl), .int rb, .int rn, .int rf, .ref t0, .ref w0, .ref s0])), (t0, .inr (3, [.int (nI N), .int (nI o), .int (nI a), .ref t1, .ref t2, .ref t3])), (t2, .inl (cB, 120, .inl T))] sz (fun (r : Int32) (_ : Unit) => r = tyV c N) (fun (u : Unit) => [(x0, .inr (4, [.ref h0, .ref k0, .ref sA, .int (nI nx), .int (nI sl), .int (bR (inR c 0 127) rb), .int rn, .int (tyF c N rf), .ref t0, .ref w0, .ref s0])), (t0, .inr (3, [.int (nI (tyN c N)), .int (nI o), .int (nI a), .ref t1, .ref t2, .ref t3])), (t2, .inl (cB, 120, .inl (tyT c N T)))]) 0 0 := by
  refine ct_of (cc := cX4_type) (maxL := 2) (ret := some .int) (own := RX4) (Qc := QI D (fun (r : Int32) (_ : Unit) => r = tyV c N) (fun (u : Unit) => [(x0, .inr (4, [.ref h0, .ref k0, .ref sA, .int (nI nx), .int (nI sl), .int (bR (inR c 0 127) rb), .int rn, .int (tyF c N rf), .ref t0, .ref w0, .ref s0])), (t0, .inr (3, [.int (nI (tyN c N)), .int (nI o), .int (nI a), .ref t1, .ref t2, .ref t3])), (t2, .inl (cB, 120, .inl (tyT c N T)))])) (by decide) rfl rfl (Nat.le_of_ble_eq_true rfl) ?_
  intro pM eM sM mM below meth cM AM ls H locs hx hb hr hts hown hlocks hml hin hK hP hD hS hA hSt hl
  have hl : lv_has ls 2 [(0, .ref x0), (1, .int c)] := hl
  refine lv_iload_n hx hb dX4_type_0 rfl (lv_at hl 1 rfl) ?_
  refine lv_iconst (v := 0) hx hb dX4_type_1 (by decide) ?_
  refine lv_bipush (v := 127) hx hb dX4_type_2 (by decide) ?_
  refine k_i (va_runS (As := [.int c, .int 0, .int 127]) (rest := []) ⟨hx, hb, hml, hown, hts⟩ (c_X4_within l D cI cB cO H.size c 0 127 ) (va_cwS 3 hts gX4_type_X4_within rfl rfl rfl (by decide +kernel) ⟨Nat.le_of_ble_eq_true rfl, Nat.le_of_ble_eq_true rfl⟩) (preS_of hK hP hD hS hA hSt [] (by decide) rfl) rfl rfl hl.1 rfl (lv_room (Nat.le_of_ble_eq_true rfl)) dX4_type_4 ⟨Nat.le_of_ble_eq_true rfl, Nat.le_of_ble_eq_true rfl⟩) hP hD hS hA [] [0, 1, 2] [0, 1, 2] [(x0, .inr (4, [.ref h0, .ref k0, .ref sA, .int (nI nx), .int (nI sl), .int rb, .int rn, .int rf, .ref t0, .ref w0, .ref s0])), (t0, .inr (3, [.int (nI N), .int (nI o), .int (nI a), .ref t1, .ref t2, .ref t3])), (t2, .inl (cB, 120, .inl T))] (fun (u_1 : Unit) => [(x0, .inr (4, [.ref h0, .ref k0, .ref sA, .int (nI nx), .int (nI sl), .int rb, .int rn, .int rf, .ref t0, .ref w0, .ref s0])), (t0, .inr (3, [.int (nI N), .int (nI o), .int (nI a), .ref t1, .ref t2, .ref t3])), (t2, .inl (cB, 120, .inl T))]) rfl rfl (by decide) (by decide) (by decide) (fun _ => rfl) (fun r_1 u_1 H locs q_1 hP hD hS => ?_)
  obtain rfl : r_1 = bI (inR c 0 127) := q_1
  refine lv_if_ne (tgt := 17) hx hb dX4_type_7 (by decide) (fun c_2 => ?_) (fun c_2 => ?_)
  · have c_2 := bI_n0.mp c_2
    refine lv_aload_n hx hb dX4_type_17 rfl (lv_at hl 0 rfl) ?_
    refine va_get (D := D) (ci := 4) (v := .ref t0) (C := RX4) (T := TX4) (N := 11) hx hb hts in_X4_type_4 hown hK hP 0 rfl rfl 8 (by decide) (hts (.fieldLink RX4 42 "HoseSpans" "text" "LHoseSpans$Text;") (List.mem_of_getElem? (i := 2) (by decide +kernel))) (fun _ h9 => h9) rfl dX4_type_18 ?_
    refine va_get (D := D) (ci := 3) (v := .int (nI N)) (C := RX3) (T := TX3) (N := 6) hx hb hts in_X4_type_3 hown hK hP 1 rfl rfl 0 (by decide) (hts (.fieldLink RX4 167 "HoseSpans$Text" "length" "I") (List.mem_of_getElem? (i := 3) (by decide +kernel))) (fun _ h9 => h9) rfl dX4_type_21 ?_
    refine lv_bipush (v := 120) hx hb dX4_type_24 (by decide) ?_
    refine lv_icmp_lt (tgt := 36) hx hb dX4_type_26 (by decide) (fun c_3 => ?_) (fun c_3 => ?_)
    · have c_3 : N < 120 := (nI_ltI (a := N) (b := 120) (by omega) (by decide)).mp c_3
      refine lv_aload_n hx hb dX4_type_36 rfl (lv_at hl 0 rfl) ?_
      refine va_get (D := D) (ci := 4) (v := .ref t0) (C := RX4) (T := TX4) (N := 11) hx hb hts in_X4_type_4 hown hK hP 0 rfl rfl 8 (by decide) (hts (.fieldLink RX4 42 "HoseSpans" "text" "LHoseSpans$Text;") (List.mem_of_getElem? (i := 2) (by decide +kernel))) (fun _ h9 => h9) rfl dX4_type_37 ?_
      refine lv_iload_n hx hb dX4_type_40 rfl (lv_at hl 1 rfl) ?_
      refine k_v (va_runV (As := [.int c]) (rest := []) ⟨hx, hb, hml, hown, hts⟩ (c_X3_put l D cI cB cO H.size t0 t1 t2 t3 N o a T c (by first | assumption | omega) (by first | assumption | omega)) (cwV 1 hts gX4_type_X3_put rfl rfl rfl (by decide +kernel) ⟨Nat.le_of_ble_eq_true rfl, Nat.le_of_ble_eq_true rfl⟩) (preV_of hK hP hD hS hA hSt [1, 2] (by decide) rfl 1 (ci := 3) rfl rfl) rfl rfl hl.1 rfl (lv_room (Nat.le_of_ble_eq_true rfl)) dX4_type_41 ⟨Nat.le_of_ble_eq_true rfl, Nat.le_of_ble_eq_true rfl⟩) hP hD hS hA [1, 2] [0] [0, 1, 2] [(x0, .inr (4, [.ref h0, .ref k0, .ref sA, .int (nI nx), .int (nI sl), .int rb, .int rn, .int rf, .ref t0, .ref w0, .ref s0]))] (fun (u_4 : Unit) => [(x0, .inr (4, [.ref h0, .ref k0, .ref sA, .int (nI nx), .int (nI sl), .int rb, .int rn, .int rf, .ref t0, .ref w0, .ref s0])), (t0, .inr (3, [.int (nI (N + 1)), .int (nI o), .int (nI a), .ref t1, .ref t2, .ref t3])), (t2, .inl (cB, 120, .inl (upd T N c)))]) rfl rfl (by decide) (by decide) (by decide) (fun _ => rfl) (fun u_4 H locs q_4 hP hD hS => ?_)
      refine lv_aload_n hx hb dX4_type_44 rfl (lv_at hl 0 rfl) ?_
      refine va_get (D := D) (ci := 4) (v := .ref t0) (C := RX4) (T := TX4) (N := 11) hx hb hts in_X4_type_4 hown hK hP 0 rfl rfl 8 (by decide) (hts (.fieldLink RX4 42 "HoseSpans" "text" "LHoseSpans$Text;") (List.mem_of_getElem? (i := 2) (by decide +kernel))) (fun _ h9 => h9) rfl dX4_type_45 ?_
      refine va_get (D := D) (ci := 3) (v := .int (nI (N + 1))) (C := RX3) (T := TX3) (N := 6) hx hb hts in_X4_type_3 hown hK hP 1 rfl rfl 0 (by decide) (hts (.fieldLink RX4 167 "HoseSpans$Text" "length" "I") (List.mem_of_getElem? (i := 3) (by decide +kernel))) (fun _ h9 => h9) rfl dX4_type_48 ?_
      rw [show (.int rb : Value) = .int (bR (inR c 0 127) rb) from congrArg Value.int (bR_t (by assumption))] at hP hD
      have hP : va_P D vwCl [(x0, .inr (4, [.ref h0, .ref k0, .ref sA, .int (nI nx), .int (nI sl), .int (bR (inR c 0 127) rb), .int rn, .int rf, .ref t0, .ref w0, .ref s0])), (t0, .inr (3, [.int (nI (N + 1)), .int (nI o), .int (nI a), .ref t1, .ref t2, .ref t3])), (t2, .inl (cB, 120, .inl (upd T N c)))] H := hP
      have hD : va_D AM [(x0, .inr (4, [.ref h0, .ref k0, .ref sA, .int (nI nx), .int (nI sl), .int (bR (inR c 0 127) rb), .int rn, .int rf, .ref t0, .ref w0, .ref s0])), (t0, .inr (3, [.int (nI (N + 1)), .int (nI o), .int (nI a), .ref t1, .ref t2, .ref t3])), (t2, .inl (cB, 120, .inl (upd T N c)))] := hD
      rw [show (.int rf : Value) = .int (tyF c N rf) from congrArg Value.int (tyF_t (by assumption))] at hP hD
      have hP : va_P D vwCl [(x0, .inr (4, [.ref h0, .ref k0, .ref sA, .int (nI nx), .int (nI sl), .int (bR (inR c 0 127) rb), .int rn, .int (tyF c N rf), .ref t0, .ref w0, .ref s0])), (t0, .inr (3, [.int (nI (N + 1)), .int (nI o), .int (nI a), .ref t1, .ref t2, .ref t3])), (t2, .inl (cB, 120, .inl (upd T N c)))] H := hP
      have hD : va_D AM [(x0, .inr (4, [.ref h0, .ref k0, .ref sA, .int (nI nx), .int (nI sl), .int (bR (inR c 0 127) rb), .int rn, .int (tyF c N rf), .ref t0, .ref w0, .ref s0])), (t0, .inr (3, [.int (nI (N + 1)), .int (nI o), .int (nI a), .ref t1, .ref t2, .ref t3])), (t2, .inl (cB, 120, .inl (upd T N c)))] := hD
      rw [show (.int (nI (N + 1)) : Value) = .int (nI (tyN c N)) from congrArg Value.int (congrArg nI (tyN_t (by assumption) (by assumption)))] at hP hD
      have hP : va_P D vwCl [(x0, .inr (4, [.ref h0, .ref k0, .ref sA, .int (nI nx), .int (nI sl), .int (bR (inR c 0 127) rb), .int rn, .int (tyF c N rf), .ref t0, .ref w0, .ref s0])), (t0, .inr (3, [.int (nI (tyN c N)), .int (nI o), .int (nI a), .ref t1, .ref t2, .ref t3])), (t2, .inl (cB, 120, .inl (upd T N c)))] H := hP
      have hD : va_D AM [(x0, .inr (4, [.ref h0, .ref k0, .ref sA, .int (nI nx), .int (nI sl), .int (bR (inR c 0 127) rb), .int rn, .int (tyF c N rf), .ref t0, .ref w0, .ref s0])), (t0, .inr (3, [.int (nI (tyN c N)), .int (nI o), .int (nI a), .ref t1, .ref t2, .ref t3])), (t2, .inl (cB, 120, .inl (upd T N c)))] := hD
      rw [show (upd T N c) = (tyT c N T) from (tyT_t (by assumption) (by assumption))] at hP hD
      have hP : va_P D vwCl [(x0, .inr (4, [.ref h0, .ref k0, .ref sA, .int (nI nx), .int (nI sl), .int (bR (inR c 0 127) rb), .int rn, .int (tyF c N rf), .ref t0, .ref w0, .ref s0])), (t0, .inr (3, [.int (nI (tyN c N)), .int (nI o), .int (nI a), .ref t1, .ref t2, .ref t3])), (t2, .inl (cB, 120, .inl (tyT c N T)))] H := hP
      have hD : va_D AM [(x0, .inr (4, [.ref h0, .ref k0, .ref sA, .int (nI nx), .int (nI sl), .int (bR (inR c 0 127) rb), .int rn, .int (tyF c N rf), .ref t0, .ref w0, .ref s0])), (t0, .inr (3, [.int (nI (tyN c N)), .int (nI o), .int (nI a), .ref t1, .ref t2, .ref t3])), (t2, .inl (cB, 120, .inl (tyT c N T)))] := hD
      refine e_i (u := ()) hx hb hr hlocks hP hD hS dX4_type_51 ?_ ?_
      · rfl
      · exact tyV_t (by assumption) (by assumption)
    · have c_3 : ¬ N < 120 := fun h => c_3 ((nI_ltI (a := N) (b := 120) (by omega) (by decide)).mpr h)
      refine lv_aload_n hx hb dX4_type_29 rfl (lv_at hl 0 rfl) ?_
      refine lv_ldc (v := -1000004) hx hb hown (hts (.constant RX4 170 (-1000004)) (List.mem_of_getElem? (i := 4) (by decide +kernel))) dX4_type_30 ?_
      refine k_i (va_runV (As := [.int (-1000004)]) (rest := []) ⟨hx, hb, hml, hown, hts⟩ (c_X4_counted l D cI cB cO H.size x0 h0 k0 sA t0 w0 s0 nx sl rb rn rf (-1000004) ) (cwV 1 hts gX4_type_X4_counted rfl rfl rfl (by decide +kernel) ⟨Nat.le_of_ble_eq_true rfl, Nat.le_of_ble_eq_true rfl⟩) (preV_of hK hP hD hS hA hSt [0] (by decide) rfl 0 (ci := 4) rfl rfl) rfl rfl hl.1 rfl (lv_room (Nat.le_of_ble_eq_true rfl)) dX4_type_32 ⟨Nat.le_of_ble_eq_true rfl, Nat.le_of_ble_eq_true rfl⟩) hP hD hS hA [0] [1, 2] [2, 0, 1] [(t0, .inr (3, [.int (nI N), .int (nI o), .int (nI a), .ref t1, .ref t2, .ref t3])), (t2, .inl (cB, 120, .inl T))] (fun (u_5 : Unit) => [(x0, .inr (4, [.ref h0, .ref k0, .ref sA, .int (nI nx), .int (nI sl), .int (uB (-1000004) rb), .int (uN (-1000004) rn), .int (uF (-1000004) rf), .ref t0, .ref w0, .ref s0])), (t0, .inr (3, [.int (nI N), .int (nI o), .int (nI a), .ref t1, .ref t2, .ref t3])), (t2, .inl (cB, 120, .inl T))]) rfl rfl (by decide) (by decide) (by decide) (fun _ => rfl) (fun r_5 u_5 H locs q_5 hP hD hS => ?_)
      obtain rfl : r_5 = -1000004 := q_5
      rw [show (.int (uB (-1000004) rb) : Value) = .int (bR (inR c 0 127) rb) from congrArg Value.int ((uB_F rb).trans (bR_t (by assumption)))] at hP hD
      have hP : va_P D vwCl [(x0, .inr (4, [.ref h0, .ref k0, .ref sA, .int (nI nx), .int (nI sl), .int (bR (inR c 0 127) rb), .int (uN (-1000004) rn), .int (uF (-1000004) rf), .ref t0, .ref w0, .ref s0])), (t0, .inr (3, [.int (nI N), .int (nI o), .int (nI a), .ref t1, .ref t2, .ref t3])), (t2, .inl (cB, 120, .inl T))] H := hP
      have hD : va_D AM [(x0, .inr (4, [.ref h0, .ref k0, .ref sA, .int (nI nx), .int (nI sl), .int (bR (inR c 0 127) rb), .int (uN (-1000004) rn), .int (uF (-1000004) rf), .ref t0, .ref w0, .ref s0])), (t0, .inr (3, [.int (nI N), .int (nI o), .int (nI a), .ref t1, .ref t2, .ref t3])), (t2, .inl (cB, 120, .inl T))] := hD
      rw [show (.int (uN (-1000004) rn) : Value) = .int rn from congrArg Value.int (uN_F rn)] at hP hD
      have hP : va_P D vwCl [(x0, .inr (4, [.ref h0, .ref k0, .ref sA, .int (nI nx), .int (nI sl), .int (bR (inR c 0 127) rb), .int rn, .int (uF (-1000004) rf), .ref t0, .ref w0, .ref s0])), (t0, .inr (3, [.int (nI N), .int (nI o), .int (nI a), .ref t1, .ref t2, .ref t3])), (t2, .inl (cB, 120, .inl T))] H := hP
      have hD : va_D AM [(x0, .inr (4, [.ref h0, .ref k0, .ref sA, .int (nI nx), .int (nI sl), .int (bR (inR c 0 127) rb), .int rn, .int (uF (-1000004) rf), .ref t0, .ref w0, .ref s0])), (t0, .inr (3, [.int (nI N), .int (nI o), .int (nI a), .ref t1, .ref t2, .ref t3])), (t2, .inl (cB, 120, .inl T))] := hD
      rw [show (.int (uF (-1000004) rf) : Value) = .int (tyF c N rf) from congrArg Value.int ((uF_F rf).trans (tyF_f (by assumption) (by assumption)))] at hP hD
      have hP : va_P D vwCl [(x0, .inr (4, [.ref h0, .ref k0, .ref sA, .int (nI nx), .int (nI sl), .int (bR (inR c 0 127) rb), .int rn, .int (tyF c N rf), .ref t0, .ref w0, .ref s0])), (t0, .inr (3, [.int (nI N), .int (nI o), .int (nI a), .ref t1, .ref t2, .ref t3])), (t2, .inl (cB, 120, .inl T))] H := hP
      have hD : va_D AM [(x0, .inr (4, [.ref h0, .ref k0, .ref sA, .int (nI nx), .int (nI sl), .int (bR (inR c 0 127) rb), .int rn, .int (tyF c N rf), .ref t0, .ref w0, .ref s0])), (t0, .inr (3, [.int (nI N), .int (nI o), .int (nI a), .ref t1, .ref t2, .ref t3])), (t2, .inl (cB, 120, .inl T))] := hD
      rw [show (.int (nI N) : Value) = .int (nI (tyN c N)) from congrArg Value.int (congrArg nI (tyN_f (by assumption)))] at hP hD
      have hP : va_P D vwCl [(x0, .inr (4, [.ref h0, .ref k0, .ref sA, .int (nI nx), .int (nI sl), .int (bR (inR c 0 127) rb), .int rn, .int (tyF c N rf), .ref t0, .ref w0, .ref s0])), (t0, .inr (3, [.int (nI (tyN c N)), .int (nI o), .int (nI a), .ref t1, .ref t2, .ref t3])), (t2, .inl (cB, 120, .inl T))] H := hP
      have hD : va_D AM [(x0, .inr (4, [.ref h0, .ref k0, .ref sA, .int (nI nx), .int (nI sl), .int (bR (inR c 0 127) rb), .int rn, .int (tyF c N rf), .ref t0, .ref w0, .ref s0])), (t0, .inr (3, [.int (nI (tyN c N)), .int (nI o), .int (nI a), .ref t1, .ref t2, .ref t3])), (t2, .inl (cB, 120, .inl T))] := hD
      rw [show T = (tyT c N T) from (tyT_f (by assumption))] at hP hD
      have hP : va_P D vwCl [(x0, .inr (4, [.ref h0, .ref k0, .ref sA, .int (nI nx), .int (nI sl), .int (bR (inR c 0 127) rb), .int rn, .int (tyF c N rf), .ref t0, .ref w0, .ref s0])), (t0, .inr (3, [.int (nI (tyN c N)), .int (nI o), .int (nI a), .ref t1, .ref t2, .ref t3])), (t2, .inl (cB, 120, .inl (tyT c N T)))] H := hP
      have hD : va_D AM [(x0, .inr (4, [.ref h0, .ref k0, .ref sA, .int (nI nx), .int (nI sl), .int (bR (inR c 0 127) rb), .int rn, .int (tyF c N rf), .ref t0, .ref w0, .ref s0])), (t0, .inr (3, [.int (nI (tyN c N)), .int (nI o), .int (nI a), .ref t1, .ref t2, .ref t3])), (t2, .inl (cB, 120, .inl (tyT c N T)))] := hD
      refine e_i (u := ()) hx hb hr hlocks hP hD hS dX4_type_35 ?_ ?_
      · rfl
      · exact tyV_f (by assumption) (by assumption)
  · have c_2 := bI_0.mp c_2
    refine lv_aload_n hx hb dX4_type_10 rfl (lv_at hl 0 rfl) ?_
    refine lv_ldc (v := -1000002) hx hb hown (hts (.constant RX4 118 (-1000002)) (List.mem_of_getElem? (i := 1) (by decide +kernel))) dX4_type_11 ?_
    refine k_i (va_runV (As := [.int (-1000002)]) (rest := []) ⟨hx, hb, hml, hown, hts⟩ (c_X4_counted l D cI cB cO H.size x0 h0 k0 sA t0 w0 s0 nx sl rb rn rf (-1000002) ) (cwV 1 hts gX4_type_X4_counted rfl rfl rfl (by decide +kernel) ⟨Nat.le_of_ble_eq_true rfl, Nat.le_of_ble_eq_true rfl⟩) (preV_of hK hP hD hS hA hSt [0] (by decide) rfl 0 (ci := 4) rfl rfl) rfl rfl hl.1 rfl (lv_room (Nat.le_of_ble_eq_true rfl)) dX4_type_13 ⟨Nat.le_of_ble_eq_true rfl, Nat.le_of_ble_eq_true rfl⟩) hP hD hS hA [0] [1, 2] [2, 0, 1] [(t0, .inr (3, [.int (nI N), .int (nI o), .int (nI a), .ref t1, .ref t2, .ref t3])), (t2, .inl (cB, 120, .inl T))] (fun (u_6 : Unit) => [(x0, .inr (4, [.ref h0, .ref k0, .ref sA, .int (nI nx), .int (nI sl), .int (uB (-1000002) rb), .int (uN (-1000002) rn), .int (uF (-1000002) rf), .ref t0, .ref w0, .ref s0])), (t0, .inr (3, [.int (nI N), .int (nI o), .int (nI a), .ref t1, .ref t2, .ref t3])), (t2, .inl (cB, 120, .inl T))]) rfl rfl (by decide) (by decide) (by decide) (fun _ => rfl) (fun r_6 u_6 H locs q_6 hP hD hS => ?_)
    obtain rfl : r_6 = -1000002 := q_6
    rw [show (.int (uB (-1000002) rb) : Value) = .int (bR (inR c 0 127) rb) from congrArg Value.int ((uB_B rb).trans (bR_f (by assumption)))] at hP hD
    have hP : va_P D vwCl [(x0, .inr (4, [.ref h0, .ref k0, .ref sA, .int (nI nx), .int (nI sl), .int (bR (inR c 0 127) rb), .int (uN (-1000002) rn), .int (uF (-1000002) rf), .ref t0, .ref w0, .ref s0])), (t0, .inr (3, [.int (nI N), .int (nI o), .int (nI a), .ref t1, .ref t2, .ref t3])), (t2, .inl (cB, 120, .inl T))] H := hP
    have hD : va_D AM [(x0, .inr (4, [.ref h0, .ref k0, .ref sA, .int (nI nx), .int (nI sl), .int (bR (inR c 0 127) rb), .int (uN (-1000002) rn), .int (uF (-1000002) rf), .ref t0, .ref w0, .ref s0])), (t0, .inr (3, [.int (nI N), .int (nI o), .int (nI a), .ref t1, .ref t2, .ref t3])), (t2, .inl (cB, 120, .inl T))] := hD
    rw [show (.int (uN (-1000002) rn) : Value) = .int rn from congrArg Value.int (uN_B rn)] at hP hD
    have hP : va_P D vwCl [(x0, .inr (4, [.ref h0, .ref k0, .ref sA, .int (nI nx), .int (nI sl), .int (bR (inR c 0 127) rb), .int rn, .int (uF (-1000002) rf), .ref t0, .ref w0, .ref s0])), (t0, .inr (3, [.int (nI N), .int (nI o), .int (nI a), .ref t1, .ref t2, .ref t3])), (t2, .inl (cB, 120, .inl T))] H := hP
    have hD : va_D AM [(x0, .inr (4, [.ref h0, .ref k0, .ref sA, .int (nI nx), .int (nI sl), .int (bR (inR c 0 127) rb), .int rn, .int (uF (-1000002) rf), .ref t0, .ref w0, .ref s0])), (t0, .inr (3, [.int (nI N), .int (nI o), .int (nI a), .ref t1, .ref t2, .ref t3])), (t2, .inl (cB, 120, .inl T))] := hD
    rw [show (.int (uF (-1000002) rf) : Value) = .int (tyF c N rf) from congrArg Value.int ((uF_B rf).trans (tyF_b (by assumption)))] at hP hD
    have hP : va_P D vwCl [(x0, .inr (4, [.ref h0, .ref k0, .ref sA, .int (nI nx), .int (nI sl), .int (bR (inR c 0 127) rb), .int rn, .int (tyF c N rf), .ref t0, .ref w0, .ref s0])), (t0, .inr (3, [.int (nI N), .int (nI o), .int (nI a), .ref t1, .ref t2, .ref t3])), (t2, .inl (cB, 120, .inl T))] H := hP
    have hD : va_D AM [(x0, .inr (4, [.ref h0, .ref k0, .ref sA, .int (nI nx), .int (nI sl), .int (bR (inR c 0 127) rb), .int rn, .int (tyF c N rf), .ref t0, .ref w0, .ref s0])), (t0, .inr (3, [.int (nI N), .int (nI o), .int (nI a), .ref t1, .ref t2, .ref t3])), (t2, .inl (cB, 120, .inl T))] := hD
    rw [show (.int (nI N) : Value) = .int (nI (tyN c N)) from congrArg Value.int (congrArg nI (tyN_b (by assumption)))] at hP hD
    have hP : va_P D vwCl [(x0, .inr (4, [.ref h0, .ref k0, .ref sA, .int (nI nx), .int (nI sl), .int (bR (inR c 0 127) rb), .int rn, .int (tyF c N rf), .ref t0, .ref w0, .ref s0])), (t0, .inr (3, [.int (nI (tyN c N)), .int (nI o), .int (nI a), .ref t1, .ref t2, .ref t3])), (t2, .inl (cB, 120, .inl T))] H := hP
    have hD : va_D AM [(x0, .inr (4, [.ref h0, .ref k0, .ref sA, .int (nI nx), .int (nI sl), .int (bR (inR c 0 127) rb), .int rn, .int (tyF c N rf), .ref t0, .ref w0, .ref s0])), (t0, .inr (3, [.int (nI (tyN c N)), .int (nI o), .int (nI a), .ref t1, .ref t2, .ref t3])), (t2, .inl (cB, 120, .inl T))] := hD
    rw [show T = (tyT c N T) from (tyT_b (by assumption))] at hP hD
    have hP : va_P D vwCl [(x0, .inr (4, [.ref h0, .ref k0, .ref sA, .int (nI nx), .int (nI sl), .int (bR (inR c 0 127) rb), .int rn, .int (tyF c N rf), .ref t0, .ref w0, .ref s0])), (t0, .inr (3, [.int (nI (tyN c N)), .int (nI o), .int (nI a), .ref t1, .ref t2, .ref t3])), (t2, .inl (cB, 120, .inl (tyT c N T)))] H := hP
    have hD : va_D AM [(x0, .inr (4, [.ref h0, .ref k0, .ref sA, .int (nI nx), .int (nI sl), .int (bR (inR c 0 127) rb), .int rn, .int (tyF c N rf), .ref t0, .ref w0, .ref s0])), (t0, .inr (3, [.int (nI (tyN c N)), .int (nI o), .int (nI a), .ref t1, .ref t2, .ref t3])), (t2, .inl (cB, 120, .inl (tyT c N T)))] := hD
    refine e_i (u := ()) hx hb hr hlocks hP hD hS dX4_type_16 ?_ ?_
    · rfl
    · exact tyV_b (by assumption)
theorem in_X4_clear_3 : ∀ w ∈ wsX30, w ∈ wsX4_clear := fun _ h => List.mem_cons_of_mem _ (List.mem_append_right _ h)
theorem in_X4_clear_4 : ∀ w ∈ wsX40, w ∈ wsX4_clear := fun _ h => List.mem_cons_of_mem _ (List.mem_append_left _ (List.mem_append_right _ h))
set_option maxHeartbeats 4000000 in
set_option maxRecDepth 100000 in
theorem c_X4_clear (l : Launch) (D : va_G) (cI cB cO : ClassId) (sz : Nat) (x0 h0 k0 sA t0 w0 s0 nx sl : Nat) (rb rn rf : Int32) (t1 t2 t3 N o a : Nat)  : CI l yX4_clear wsX4_clear ({ frames := 0, cells := 0, slots := 0, locals := 0 } : Room) D (tyL cI cB cO) [.ref x0] [(x0, .inr (4, [.ref h0, .ref k0, .ref sA, .int (nI nx), .int (nI sl), .int rb, .int rn, .int rf, .ref t0, .ref w0, .ref s0])), (t0, .inr (3, [.int (nI N), .int (nI o), .int (nI a), .ref t1, .ref t2, .ref t3]))] sz (fun (r : Int32) (_ : Unit) => r = nI N) (fun (u : Unit) => [(x0, .inr (4, [.ref h0, .ref k0, .ref sA, .int (nI nx), .int (nI sl), .int rb, .int rn, .int rf, .ref t0, .ref w0, .ref s0])), (t0, .inr (3, [.int (nI 0), .int (nI o), .int (nI a), .ref t1, .ref t2, .ref t3]))]) 0 0 := by
  refine ct_of (cc := cX4_clear) (maxL := 2) (ret := some .int) (own := RX4) (Qc := QI D (fun (r : Int32) (_ : Unit) => r = nI N) (fun (u : Unit) => [(x0, .inr (4, [.ref h0, .ref k0, .ref sA, .int (nI nx), .int (nI sl), .int rb, .int rn, .int rf, .ref t0, .ref w0, .ref s0])), (t0, .inr (3, [.int (nI 0), .int (nI o), .int (nI a), .ref t1, .ref t2, .ref t3]))])) (by decide) rfl rfl (Nat.le_of_ble_eq_true rfl) ?_
  intro pM eM sM mM below meth cM AM ls H locs hx hb hr hts hown hlocks hml hin hK hP hD hS hA hSt hl
  have hl : lv_has ls 2 [(0, .ref x0)] := hl
  refine lv_aload_n hx hb dX4_clear_0 rfl (lv_at hl 0 rfl) ?_
  refine va_get (D := D) (ci := 4) (v := .ref t0) (C := RX4) (T := TX4) (N := 11) hx hb hts in_X4_clear_4 hown hK hP 0 rfl rfl 8 (by decide) (hts (.fieldLink RX4 42 "HoseSpans" "text" "LHoseSpans$Text;") (List.mem_of_getElem? (i := 1) (by decide +kernel))) (fun _ h9 => h9) rfl dX4_clear_1 ?_
  refine va_get (D := D) (ci := 3) (v := .int (nI N)) (C := RX3) (T := TX3) (N := 6) hx hb hts in_X4_clear_3 hown hK hP 1 rfl rfl 0 (by decide) (hts (.fieldLink RX4 167 "HoseSpans$Text" "length" "I") (List.mem_of_getElem? (i := 2) (by decide +kernel))) (fun _ h9 => h9) rfl dX4_clear_4 ?_
  refine lv_istore_n (lv' := [(1, .int (nI N)), (0, .ref x0)]) hx hb dX4_clear_7 rfl hl (by decide) rfl (fun ls hl => ?_)
  refine lv_aload_n hx hb dX4_clear_8 rfl (lv_at hl 1 rfl) ?_
  refine va_get (D := D) (ci := 4) (v := .ref t0) (C := RX4) (T := TX4) (N := 11) hx hb hts in_X4_clear_4 hown hK hP 0 rfl rfl 8 (by decide) (hts (.fieldLink RX4 42 "HoseSpans" "text" "LHoseSpans$Text;") (List.mem_of_getElem? (i := 1) (by decide +kernel))) (fun _ h9 => h9) rfl dX4_clear_9 ?_
  refine lv_iconst (v := 0) hx hb dX4_clear_12 (by decide) ?_
  refine va_put (D := D) (ci := 3) (v := .int 0) (ty := .int) (C := RX3) (T := TX3) (N := 6) hx hb hts in_X4_clear_3 tyX3 tyX3_ok nmX3 hown hK hP hD hS 1 rfl rfl 0 (by decide) (hts (.fieldLink RX4 167 "HoseSpans$Text" "length" "I") (List.mem_of_getElem? (i := 2) (by decide +kernel))) (fun _ h9 => h9) rfl (by decide +kernel) rfl rfl (Nat.le_of_ble_eq_true rfl) dX4_clear_13 (fun H locs hP hD hS => ?_)
  have hP : va_P D vwCl [(x0, .inr (4, [.ref h0, .ref k0, .ref sA, .int (nI nx), .int (nI sl), .int rb, .int rn, .int rf, .ref t0, .ref w0, .ref s0])), (t0, .inr (3, [.int 0, .int (nI o), .int (nI a), .ref t1, .ref t2, .ref t3]))] H := hP
  have hD : va_D AM [(x0, .inr (4, [.ref h0, .ref k0, .ref sA, .int (nI nx), .int (nI sl), .int rb, .int rn, .int rf, .ref t0, .ref w0, .ref s0])), (t0, .inr (3, [.int 0, .int (nI o), .int (nI a), .ref t1, .ref t2, .ref t3]))] := hD
  refine lv_iload_n hx hb dX4_clear_16 rfl (lv_at hl 0 rfl) ?_
  refine e_i (u := ()) hx hb hr hlocks hP hD hS dX4_clear_17 ?_ ?_
  · rfl
  · rfl
theorem in_X4_told_3 : ∀ w ∈ wsX30, w ∈ wsX4_told := fun _ h => List.mem_cons_of_mem _ (List.mem_append_right _ h)
theorem in_X4_told_4 : ∀ w ∈ wsX40, w ∈ wsX4_told := fun _ h => List.mem_cons_of_mem _ (List.mem_append_left _ (List.mem_append_right _ h))
set_option maxHeartbeats 4000000 in
set_option maxRecDepth 100000 in
theorem c_X4_told (l : Launch) (D : va_G) (cI cB cO : ClassId) (sz : Nat) (x0 h0 k0 sA t0 w0 s0 nx sl : Nat) (rb rn rf : Int32) (t1 t2 t3 N o a : Nat) (w : Int32)  : CI l yX4_told wsX4_told ({ frames := 1, cells := 0, slots := 0, locals := 21 } : Room) D (tyL cI cB cO) [.ref x0, .int w] [(x0, .inr (4, [.ref h0, .ref k0, .ref sA, .int (nI nx), .int (nI sl), .int rb, .int rn, .int rf, .ref t0, .ref w0, .ref s0])), (t0, .inr (3, [.int (nI N), .int (nI o), .int (nI a), .ref t1, .ref t2, .ref t3]))] sz (fun (r : Int32) (_ : Unit) => r = rB (inR w 0 4) (toldF rb rn rf N sl w)) (fun (u : Unit) => [(x0, .inr (4, [.ref h0, .ref k0, .ref sA, .int (nI nx), .int (nI sl), .int (bR (inR w 0 4) rb), .int rn, .int rf, .ref t0, .ref w0, .ref s0])), (t0, .inr (3, [.int (nI N), .int (nI o), .int (nI a), .ref t1, .ref t2, .ref t3]))]) 0 0 := by
  refine ct_of (cc := cX4_told) (maxL := 2) (ret := some .int) (own := RX4) (Qc := QI D (fun (r : Int32) (_ : Unit) => r = rB (inR w 0 4) (toldF rb rn rf N sl w)) (fun (u : Unit) => [(x0, .inr (4, [.ref h0, .ref k0, .ref sA, .int (nI nx), .int (nI sl), .int (bR (inR w 0 4) rb), .int rn, .int rf, .ref t0, .ref w0, .ref s0])), (t0, .inr (3, [.int (nI N), .int (nI o), .int (nI a), .ref t1, .ref t2, .ref t3]))])) (by decide) rfl rfl (Nat.le_of_ble_eq_true rfl) ?_
  intro pM eM sM mM below meth cM AM ls H locs hx hb hr hts hown hlocks hml hin hK hP hD hS hA hSt hl
  have hl : lv_has ls 2 [(0, .ref x0), (1, .int w)] := hl
  refine lv_iload_n hx hb dX4_told_0 rfl (lv_at hl 1 rfl) ?_
  by_cases k_1 : w = 0
  · refine lv_tableIn (off := 35) (tgt := 36) hx hb dX4_told_1 (by rw [k_1]; decide) (by rw [k_1]; decide) (by rw [k_1]; decide) (by decide) ?_
    have hok : inR w 0 4 = true := by rw [k_1]; decide
    refine lv_aload_n hx hb dX4_told_36 rfl (lv_at hl 0 rfl) ?_
    refine va_get (D := D) (ci := 4) (v := .int rb) (C := RX4) (T := TX4) (N := 11) hx hb hts in_X4_told_4 hown hK hP 0 rfl rfl 5 (by decide) (hts (.fieldLink RX4 30 "HoseSpans" "refusedBad" "I") (List.mem_of_getElem? (i := 1) (by decide +kernel))) (fun _ h9 => h9) rfl dX4_told_37 ?_
    rw [show (.int rb : Value) = .int (bR (inR w 0 4) rb) from congrArg Value.int (bR_t (by first | assumption | exact and_t2 (by assumption) (by assumption)))] at hP hD
    have hP : va_P D vwCl [(x0, .inr (4, [.ref h0, .ref k0, .ref sA, .int (nI nx), .int (nI sl), .int (bR (inR w 0 4) rb), .int rn, .int rf, .ref t0, .ref w0, .ref s0])), (t0, .inr (3, [.int (nI N), .int (nI o), .int (nI a), .ref t1, .ref t2, .ref t3]))] H := hP
    have hD : va_D AM [(x0, .inr (4, [.ref h0, .ref k0, .ref sA, .int (nI nx), .int (nI sl), .int (bR (inR w 0 4) rb), .int rn, .int rf, .ref t0, .ref w0, .ref s0])), (t0, .inr (3, [.int (nI N), .int (nI o), .int (nI a), .ref t1, .ref t2, .ref t3]))] := hD
    refine e_i (u := ()) hx hb hr hlocks hP hD hS dX4_told_40 ?_ ?_
    · rfl
    · exact rB_t2 hok (by unfold toldF; rw [if_pos (by assumption)])
  by_cases k_2 : w = 1
  · refine lv_tableIn (off := 40) (tgt := 41) hx hb dX4_told_1 (by rw [k_2]; decide) (by rw [k_2]; decide) (by rw [k_2]; decide) (by decide) ?_
    have hok : inR w 0 4 = true := by rw [k_2]; decide
    refine lv_aload_n hx hb dX4_told_41 rfl (lv_at hl 0 rfl) ?_
    refine va_get (D := D) (ci := 4) (v := .int rn) (C := RX4) (T := TX4) (N := 11) hx hb hts in_X4_told_4 hown hK hP 0 rfl rfl 6 (by decide) (hts (.fieldLink RX4 33 "HoseSpans" "refusedNo" "I") (List.mem_of_getElem? (i := 2) (by decide +kernel))) (fun _ h9 => h9) rfl dX4_told_42 ?_
    rw [show (.int rb : Value) = .int (bR (inR w 0 4) rb) from congrArg Value.int (bR_t (by first | assumption | exact and_t2 (by assumption) (by assumption)))] at hP hD
    have hP : va_P D vwCl [(x0, .inr (4, [.ref h0, .ref k0, .ref sA, .int (nI nx), .int (nI sl), .int (bR (inR w 0 4) rb), .int rn, .int rf, .ref t0, .ref w0, .ref s0])), (t0, .inr (3, [.int (nI N), .int (nI o), .int (nI a), .ref t1, .ref t2, .ref t3]))] H := hP
    have hD : va_D AM [(x0, .inr (4, [.ref h0, .ref k0, .ref sA, .int (nI nx), .int (nI sl), .int (bR (inR w 0 4) rb), .int rn, .int rf, .ref t0, .ref w0, .ref s0])), (t0, .inr (3, [.int (nI N), .int (nI o), .int (nI a), .ref t1, .ref t2, .ref t3]))] := hD
    refine e_i (u := ()) hx hb hr hlocks hP hD hS dX4_told_45 ?_ ?_
    · rfl
    · exact rB_t2 hok (by unfold toldF; rw [if_neg (by rw [‹w = 1›]; decide)]; rw [if_pos (by assumption)])
  by_cases k_3 : w = 2
  · refine lv_tableIn (off := 45) (tgt := 46) hx hb dX4_told_1 (by rw [k_3]; decide) (by rw [k_3]; decide) (by rw [k_3]; decide) (by decide) ?_
    have hok : inR w 0 4 = true := by rw [k_3]; decide
    refine lv_aload_n hx hb dX4_told_46 rfl (lv_at hl 0 rfl) ?_
    refine va_get (D := D) (ci := 4) (v := .int rf) (C := RX4) (T := TX4) (N := 11) hx hb hts in_X4_told_4 hown hK hP 0 rfl rfl 7 (by decide) (hts (.fieldLink RX4 36 "HoseSpans" "refusedFull" "I") (List.mem_of_getElem? (i := 3) (by decide +kernel))) (fun _ h9 => h9) rfl dX4_told_47 ?_
    rw [show (.int rb : Value) = .int (bR (inR w 0 4) rb) from congrArg Value.int (bR_t (by first | assumption | exact and_t2 (by assumption) (by assumption)))] at hP hD
    have hP : va_P D vwCl [(x0, .inr (4, [.ref h0, .ref k0, .ref sA, .int (nI nx), .int (nI sl), .int (bR (inR w 0 4) rb), .int rn, .int rf, .ref t0, .ref w0, .ref s0])), (t0, .inr (3, [.int (nI N), .int (nI o), .int (nI a), .ref t1, .ref t2, .ref t3]))] H := hP
    have hD : va_D AM [(x0, .inr (4, [.ref h0, .ref k0, .ref sA, .int (nI nx), .int (nI sl), .int (bR (inR w 0 4) rb), .int rn, .int rf, .ref t0, .ref w0, .ref s0])), (t0, .inr (3, [.int (nI N), .int (nI o), .int (nI a), .ref t1, .ref t2, .ref t3]))] := hD
    refine e_i (u := ()) hx hb hr hlocks hP hD hS dX4_told_50 ?_ ?_
    · rfl
    · exact rB_t2 hok (by unfold toldF; rw [if_neg (by rw [‹w = 2›]; decide)]; rw [if_neg (by rw [‹w = 2›]; decide)]; rw [if_pos (by assumption)])
  by_cases k_4 : w = 3
  · refine lv_tableIn (off := 50) (tgt := 51) hx hb dX4_told_1 (by rw [k_4]; decide) (by rw [k_4]; decide) (by rw [k_4]; decide) (by decide) ?_
    have hok : inR w 0 4 = true := by rw [k_4]; decide
    refine lv_aload_n hx hb dX4_told_51 rfl (lv_at hl 0 rfl) ?_
    refine va_get (D := D) (ci := 4) (v := .ref t0) (C := RX4) (T := TX4) (N := 11) hx hb hts in_X4_told_4 hown hK hP 0 rfl rfl 8 (by decide) (hts (.fieldLink RX4 42 "HoseSpans" "text" "LHoseSpans$Text;") (List.mem_of_getElem? (i := 4) (by decide +kernel))) (fun _ h9 => h9) rfl dX4_told_52 ?_
    refine va_get (D := D) (ci := 3) (v := .int (nI N)) (C := RX3) (T := TX3) (N := 6) hx hb hts in_X4_told_3 hown hK hP 1 rfl rfl 0 (by decide) (hts (.fieldLink RX4 167 "HoseSpans$Text" "length" "I") (List.mem_of_getElem? (i := 5) (by decide +kernel))) (fun _ h9 => h9) rfl dX4_told_55 ?_
    rw [show (.int rb : Value) = .int (bR (inR w 0 4) rb) from congrArg Value.int (bR_t (by first | assumption | exact and_t2 (by assumption) (by assumption)))] at hP hD
    have hP : va_P D vwCl [(x0, .inr (4, [.ref h0, .ref k0, .ref sA, .int (nI nx), .int (nI sl), .int (bR (inR w 0 4) rb), .int rn, .int rf, .ref t0, .ref w0, .ref s0])), (t0, .inr (3, [.int (nI N), .int (nI o), .int (nI a), .ref t1, .ref t2, .ref t3]))] H := hP
    have hD : va_D AM [(x0, .inr (4, [.ref h0, .ref k0, .ref sA, .int (nI nx), .int (nI sl), .int (bR (inR w 0 4) rb), .int rn, .int rf, .ref t0, .ref w0, .ref s0])), (t0, .inr (3, [.int (nI N), .int (nI o), .int (nI a), .ref t1, .ref t2, .ref t3]))] := hD
    refine e_i (u := ()) hx hb hr hlocks hP hD hS dX4_told_58 ?_ ?_
    · rfl
    · exact rB_t2 hok (by unfold toldF; rw [if_neg (by rw [‹w = 3›]; decide)]; rw [if_neg (by rw [‹w = 3›]; decide)]; rw [if_neg (by rw [‹w = 3›]; decide)]; rw [if_pos (by assumption)])
  by_cases k_5 : w = 4
  · refine lv_tableIn (off := 58) (tgt := 59) hx hb dX4_told_1 (by rw [k_5]; decide) (by rw [k_5]; decide) (by rw [k_5]; decide) (by decide) ?_
    have hok : inR w 0 4 = true := by rw [k_5]; decide
    refine lv_aload_n hx hb dX4_told_59 rfl (lv_at hl 0 rfl) ?_
    refine va_get (D := D) (ci := 4) (v := .int (nI sl)) (C := RX4) (T := TX4) (N := 11) hx hb hts in_X4_told_4 hown hK hP 0 rfl rfl 4 (by decide) (hts (.fieldLink RX4 27 "HoseSpans" "statesLeft" "I") (List.mem_of_getElem? (i := 6) (by decide +kernel))) (fun _ h9 => h9) rfl dX4_told_60 ?_
    rw [show (.int rb : Value) = .int (bR (inR w 0 4) rb) from congrArg Value.int (bR_t (by first | assumption | exact and_t2 (by assumption) (by assumption)))] at hP hD
    have hP : va_P D vwCl [(x0, .inr (4, [.ref h0, .ref k0, .ref sA, .int (nI nx), .int (nI sl), .int (bR (inR w 0 4) rb), .int rn, .int rf, .ref t0, .ref w0, .ref s0])), (t0, .inr (3, [.int (nI N), .int (nI o), .int (nI a), .ref t1, .ref t2, .ref t3]))] H := hP
    have hD : va_D AM [(x0, .inr (4, [.ref h0, .ref k0, .ref sA, .int (nI nx), .int (nI sl), .int (bR (inR w 0 4) rb), .int rn, .int rf, .ref t0, .ref w0, .ref s0])), (t0, .inr (3, [.int (nI N), .int (nI o), .int (nI a), .ref t1, .ref t2, .ref t3]))] := hD
    refine e_i (u := ()) hx hb hr hlocks hP hD hS dX4_told_63 ?_ ?_
    · rfl
    · exact rB_t2 hok (by unfold toldF; rw [if_neg (by rw [‹w = 4›]; decide)]; rw [if_neg (by rw [‹w = 4›]; decide)]; rw [if_neg (by rw [‹w = 4›]; decide)]; rw [if_neg (by rw [‹w = 4›]; decide)])
  have nk_1 : Int32.toInt w ≠ 0 := ne_ti (by decide) k_1
  have nk_2 : Int32.toInt w ≠ 1 := ne_ti (by decide) k_2
  have nk_3 : Int32.toInt w ≠ 2 := ne_ti (by decide) k_3
  have nk_4 : Int32.toInt w ≠ 3 := ne_ti (by decide) k_4
  have nk_5 : Int32.toInt w ≠ 4 := ne_ti (by decide) k_5
  refine lv_tableOut (tgt := 64) hx hb dX4_told_1 (by omega) (by decide) ?_
  have hno := told_no (by assumption) (by assumption) (by assumption) (by assumption) (by assumption)
  refine lv_aload_n hx hb dX4_told_64 rfl (lv_at hl 0 rfl) ?_
  refine lv_ldc (v := -1000002) hx hb hown (hts (.constant RX4 118 (-1000002)) (List.mem_of_getElem? (i := 7) (by decide +kernel))) dX4_told_65 ?_
  refine k_i (va_runV (As := [.int (-1000002)]) (rest := []) ⟨hx, hb, hml, hown, hts⟩ (c_X4_counted l D cI cB cO H.size x0 h0 k0 sA t0 w0 s0 nx sl rb rn rf (-1000002) ) (cwV 1 hts gX4_told_X4_counted rfl rfl rfl (by decide +kernel) ⟨Nat.le_of_ble_eq_true rfl, Nat.le_of_ble_eq_true rfl⟩) (preV_of hK hP hD hS hA hSt [0] (by decide) rfl 0 (ci := 4) rfl rfl) rfl rfl hl.1 rfl (lv_room (Nat.le_of_ble_eq_true rfl)) dX4_told_67 ⟨Nat.le_of_ble_eq_true rfl, Nat.le_of_ble_eq_true rfl⟩) hP hD hS hA [0] [1] [1, 0] [(t0, .inr (3, [.int (nI N), .int (nI o), .int (nI a), .ref t1, .ref t2, .ref t3]))] (fun (u_6 : Unit) => [(x0, .inr (4, [.ref h0, .ref k0, .ref sA, .int (nI nx), .int (nI sl), .int (uB (-1000002) rb), .int (uN (-1000002) rn), .int (uF (-1000002) rf), .ref t0, .ref w0, .ref s0])), (t0, .inr (3, [.int (nI N), .int (nI o), .int (nI a), .ref t1, .ref t2, .ref t3]))]) rfl rfl (by decide) (by decide) (by decide) (fun _ => rfl) (fun r_6 u_6 H locs q_6 hP hD hS => ?_)
  obtain rfl : r_6 = -1000002 := q_6
  rw [show (.int (uB (-1000002) rb) : Value) = .int (bR (inR w 0 4) rb) from congrArg Value.int ((uB_B rb).trans (bR_f (by first | assumption | exact and_f1 (by assumption) | exact and_f2 (by assumption))))] at hP hD
  have hP : va_P D vwCl [(x0, .inr (4, [.ref h0, .ref k0, .ref sA, .int (nI nx), .int (nI sl), .int (bR (inR w 0 4) rb), .int (uN (-1000002) rn), .int (uF (-1000002) rf), .ref t0, .ref w0, .ref s0])), (t0, .inr (3, [.int (nI N), .int (nI o), .int (nI a), .ref t1, .ref t2, .ref t3]))] H := hP
  have hD : va_D AM [(x0, .inr (4, [.ref h0, .ref k0, .ref sA, .int (nI nx), .int (nI sl), .int (bR (inR w 0 4) rb), .int (uN (-1000002) rn), .int (uF (-1000002) rf), .ref t0, .ref w0, .ref s0])), (t0, .inr (3, [.int (nI N), .int (nI o), .int (nI a), .ref t1, .ref t2, .ref t3]))] := hD
  rw [show (.int (uN (-1000002) rn) : Value) = .int rn from congrArg Value.int (uN_B rn)] at hP hD
  have hP : va_P D vwCl [(x0, .inr (4, [.ref h0, .ref k0, .ref sA, .int (nI nx), .int (nI sl), .int (bR (inR w 0 4) rb), .int rn, .int (uF (-1000002) rf), .ref t0, .ref w0, .ref s0])), (t0, .inr (3, [.int (nI N), .int (nI o), .int (nI a), .ref t1, .ref t2, .ref t3]))] H := hP
  have hD : va_D AM [(x0, .inr (4, [.ref h0, .ref k0, .ref sA, .int (nI nx), .int (nI sl), .int (bR (inR w 0 4) rb), .int rn, .int (uF (-1000002) rf), .ref t0, .ref w0, .ref s0])), (t0, .inr (3, [.int (nI N), .int (nI o), .int (nI a), .ref t1, .ref t2, .ref t3]))] := hD
  rw [show (.int (uF (-1000002) rf) : Value) = .int rf from congrArg Value.int (uF_B rf)] at hP hD
  have hP : va_P D vwCl [(x0, .inr (4, [.ref h0, .ref k0, .ref sA, .int (nI nx), .int (nI sl), .int (bR (inR w 0 4) rb), .int rn, .int rf, .ref t0, .ref w0, .ref s0])), (t0, .inr (3, [.int (nI N), .int (nI o), .int (nI a), .ref t1, .ref t2, .ref t3]))] H := hP
  have hD : va_D AM [(x0, .inr (4, [.ref h0, .ref k0, .ref sA, .int (nI nx), .int (nI sl), .int (bR (inR w 0 4) rb), .int rn, .int rf, .ref t0, .ref w0, .ref s0])), (t0, .inr (3, [.int (nI N), .int (nI o), .int (nI a), .ref t1, .ref t2, .ref t3]))] := hD
  refine e_i (u := ()) hx hb hr hlocks hP hD hS dX4_told_70 ?_ ?_
  · rfl
  · exact rB_f (by first | assumption | exact and_f1 (by assumption) | exact and_f2 (by assumption))
