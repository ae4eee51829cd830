set_option maxHeartbeats 4000000 in
set_option maxRecDepth 100000 in
theorem c_X4_within (l : Launch) (D : va_G) (cI cB cO : ClassId) (sz : Nat) (a b c : Int32)  : CI l yX4_within wsX4_within ({ frames := 0, cells := 0, slots := 0, locals := 0 } : Room) D (tyL cI cB cO) [.int a, .int b, .int c] [] sz (fun (r : Int32) (_ : Unit) => r = bI (inR a b c)) (fun (u : Unit) => []) 0 0 := by
  refine ct_of (cc := cX4_within) (maxL := 3) (ret := some .boolean) (own := RX4) (Qc := QI D (fun (r : Int32) (_ : Unit) => r = bI (inR a b c)) (fun (u : Unit) => [])) (by decide) rfl rfl (Nat.le_of_ble_eq_true rfl) ?_
  intro pM eM sM mM below meth cM AM ls H locs hx hb hr hts hown hlocks hml hin hK hP hD hS hA hSt hl
  have hl : lv_has ls 3 [(0, .int a), (1, .int b), (2, .int c)] := hl
  refine lv_iload_n hx hb dX4_within_0 rfl (lv_at hl 0 rfl) ?_
  refine lv_iload_n hx hb dX4_within_1 rfl (lv_at hl 1 rfl) ?_
  refine lv_icmp_lt (tgt := 14) hx hb dX4_within_2 (by decide) (fun c_1 => ?_) (fun c_1 => ?_)
  · refine lv_iconst (v := 0) hx hb dX4_within_14 (by decide) ?_
    refine e_z (u := ()) hx hb hr (by first | rfl | exact bI_nar _) hlocks hP hD hS dX4_within_15 ?_ ?_
    · rfl
    · first | exact bI_t (inR_t.mpr ⟨Int32.not_lt.mp (by assumption), Int32.not_lt.mp (by assumption)⟩) | exact bI_f (inR_f.mpr (fun h => absurd h.1 (Int32.not_le.mpr (by assumption)))) | exact bI_f (inR_f.mpr (fun h => absurd h.2 (Int32.not_le.mpr (by assumption))))
  · refine lv_iload_n hx hb dX4_within_5 rfl (lv_at hl 0 rfl) ?_
    refine lv_iload_n hx hb dX4_within_6 rfl (lv_at hl 2 rfl) ?_
    refine lv_icmp_gt (tgt := 14) hx hb dX4_within_7 (by decide) (fun c_2 => ?_) (fun c_2 => ?_)
    · refine lv_iconst (v := 0) hx hb dX4_within_14 (by decide) ?_
      refine e_z (u := ()) hx hb hr (by first | rfl | exact bI_nar _) hlocks hP hD hS dX4_within_15 ?_ ?_
      · rfl
      · first | exact bI_t (inR_t.mpr ⟨Int32.not_lt.mp (by assumption), Int32.not_lt.mp (by assumption)⟩) | exact bI_f (inR_f.mpr (fun h => absurd h.1 (Int32.not_le.mpr (by assumption)))) | exact bI_f (inR_f.mpr (fun h => absurd h.2 (Int32.not_le.mpr (by assumption))))
    · refine lv_iconst (v := 1) hx hb dX4_within_10 (by decide) ?_
      refine lv_goto (tgt := 15) hx hb dX4_within_11 (by decide) ?_
      refine e_z (u := ()) hx hb hr (by first | rfl | exact bI_nar _) hlocks hP hD hS dX4_within_15 ?_ ?_
      · rfl
      · first | exact bI_t (inR_t.mpr ⟨Int32.not_lt.mp (by assumption), Int32.not_lt.mp (by assumption)⟩) | exact bI_f (inR_f.mpr (fun h => absurd h.1 (Int32.not_le.mpr (by assumption)))) | exact bI_f (inR_f.mpr (fun h => absurd h.2 (Int32.not_le.mpr (by assumption))))
theorem in_X0_fact_0 : ∀ w ∈ wsX00, w ∈ wsX0_fact := fun _ h => List.mem_cons_of_mem _ (List.mem_append_right _ h)
set_option maxHeartbeats 4000000 in
set_option maxRecDepth 100000 in
theorem c_X0_fact (l : Launch) (D : va_G) (cI cB cO : ClassId) (sz : Nat) (h0 h1 h2 n : Nat) (P : Int32) (F : Nat → Int32) (i w : Nat) (hi : i * 5 + w < 50) : CI l yX0_fact wsX0_fact ({ frames := 0, cells := 0, slots := 0, locals := 0 } : Room) D (tyL cI cB cO) [.ref h0, .int (nI i), .int (nI w)] [(h0, .inr (0, [.int (nI n), .int P, .ref h1, .ref h2])), (h1, .inl (cI, 50, .inl F))] sz (fun (r : Int32) (_ : Unit) => r = F (i * 5 + w)) (fun (u : Unit) => [(h0, .inr (0, [.int (nI n), .int P, .ref h1, .ref h2])), (h1, .inl (cI, 50, .inl F))]) 0 0 := by
  refine ct_of (cc := cX0_fact) (maxL := 3) (ret := some .int) (own := RX0) (Qc := QI D (fun (r : Int32) (_ : Unit) => r = F (i * 5 + w)) (fun (u : Unit) => [(h0, .inr (0, [.int (nI n), .int P, .ref h1, .ref h2])), (h1, .inl (cI, 50, .inl F))])) (by decide) rfl rfl (Nat.le_of_ble_eq_true rfl) ?_
  intro pM eM sM mM below meth cM AM ls H locs hx hb hr hts hown hlocks hml hin hK hP hD hS hA hSt hl
  have hl : lv_has ls 3 [(0, .ref h0), (1, .int (nI i)), (2, .int (nI w))] := hl
  refine lv_aload_n hx hb dX0_fact_0 rfl (lv_at hl 0 rfl) ?_
  refine va_get (D := D) (ci := 0) (v := .ref h1) (C := RX0) (T := TX0) (N := 4) hx hb hts in_X0_fact_0 hown hK hP 0 rfl rfl 2 (by decide) (hts (.fieldLink RX0 18 "HoseSpans$Line" "facts" "[I") (List.mem_of_getElem? (i := 1) (by decide +kernel))) (fun _ h9 => h9) rfl dX0_fact_1 ?_
  refine lv_iload_n hx hb dX0_fact_4 rfl (lv_at hl 1 rfl) ?_
  refine lv_iconst (v := 5) hx hb dX0_fact_5 (by decide) ?_
  refine lv_imul hx hb dX0_fact_6 ?_
  refine e_n (y := nI (i * 5)) (pk_mul i 5) ?_
  refine lv_iload_n hx hb dX0_fact_7 rfl (lv_at hl 2 rfl) ?_
  refine lv_iadd hx hb dX0_fact_8 ?_
  refine e_n (y := nI (i * 5 + w)) (nI_add (i * 5) w) ?_
  refine va_iald hx hb hK hP 1 0 rfl rfl (vp_in_nI (by omega) (by decide)) dX0_fact_9 ?_
  refine e_n (y := F (i * 5 + w)) (congrArg F (nI_clamp (by omega))) ?_
  refine e_i (u := ()) hx hb hr hlocks hP hD hS dX0_fact_10 ?_ ?_
  · rfl
  · rfl
theorem in_X0_setFact_0 : ∀ w ∈ wsX00, w ∈ wsX0_setFact := fun _ h => List.mem_cons_of_mem _ (List.mem_append_right _ h)
set_option maxHeartbeats 4000000 in
set_option maxRecDepth 100000 in
theorem c_X0_setFact (l : Launch) (D : va_G) (cI cB cO : ClassId) (sz : Nat) (h0 h1 h2 n : Nat) (P : Int32) (F : Nat → Int32) (i w : Nat) (v : Int32) (hi : i * 5 + w < 50) : CV l yX0_setFact wsX0_setFact ({ frames := 0, cells := 0, slots := 0, locals := 0 } : Room) D (tyL cI cB cO) [.ref h0, .int (nI i), .int (nI w), .int v] [(h0, .inr (0, [.int (nI n), .int P, .ref h1, .ref h2])), (h1, .inl (cI, 50, .inl F))] sz (fun (_ : Unit) => True) (fun (u : Unit) => [(h0, .inr (0, [.int (nI n), .int P, .ref h1, .ref h2])), (h1, .inl (cI, 50, .inl (upd F (i * 5 + w) v)))]) 0 0 := by
  refine ct_of (cc := cX0_setFact) (maxL := 4) (ret := none) (own := RX0) (Qc := QV D (fun (_ : Unit) => True) (fun (u : Unit) => [(h0, .inr (0, [.int (nI n), .int P, .ref h1, .ref h2])), (h1, .inl (cI, 50, .inl (upd F (i * 5 + w) v)))])) (by decide) rfl rfl (Nat.le_of_ble_eq_true rfl) ?_
  intro pM eM sM mM below meth cM AM ls H locs hx hb hr hts hown hlocks hml hin hK hP hD hS hA hSt hl
  have hl : lv_has ls 4 [(0, .ref h0), (1, .int (nI i)), (2, .int (nI w)), (3, .int v)] := hl
  refine lv_aload_n hx hb dX0_setFact_0 rfl (lv_at hl 0 rfl) ?_
  refine va_get (D := D) (ci := 0) (v := .ref h1) (C := RX0) (T := TX0) (N := 4) hx hb hts in_X0_setFact_0 hown hK hP 0 rfl rfl 2 (by decide) (hts (.fieldLink RX0 18 "HoseSpans$Line" "facts" "[I") (List.mem_of_getElem? (i := 1) (by decide +kernel))) (fun _ h9 => h9) rfl dX0_setFact_1 ?_
  refine lv_iload_n hx hb dX0_setFact_4 rfl (lv_at hl 1 rfl) ?_
  refine lv_iconst (v := 5) hx hb dX0_setFact_5 (by decide) ?_
  refine lv_imul hx hb dX0_setFact_6 ?_
  refine e_n (y := nI (i * 5)) (pk_mul i 5) ?_
  refine lv_iload_n hx hb dX0_setFact_7 rfl (lv_at hl 2 rfl) ?_
  refine lv_iadd hx hb dX0_setFact_8 ?_
  refine e_n (y := nI (i * 5 + w)) (nI_add (i * 5) w) ?_
  refine lv_iload_n hx hb dX0_setFact_9 rfl (lv_at hl 3 rfl) ?_
  refine va_iast hx hb hK hP hD hS 1 0 rfl rfl (vp_in_nI (by omega) (by decide)) dX0_setFact_10 (fun H locs hP hD hS => ?_)
  rw [show Int32.toNatClampNeg (nI (i * 5 + w)) = i * 5 + w from (nI_clamp (by omega))] at hP hD
  have hP : va_P D vwCl [(h0, .inr (0, [.int (nI n), .int P, .ref h1, .ref h2])), (h1, .inl (cI, 50, .inl (upd F (i * 5 + w) v)))] H := hP
  have hD : va_D AM [(h0, .inr (0, [.int (nI n), .int P, .ref h1, .ref h2])), (h1, .inl (cI, 50, .inl (upd F (i * 5 + w) v)))] := hD
  refine e_v (u := ()) hx hb hr hlocks hP hD hS dX0_setFact_11 ?_ ?_
  · rfl
  · trivial
theorem in_X0_hasSpan_0 : ∀ w ∈ wsX00, w ∈ wsX0_hasSpan := fun _ h => List.mem_cons_of_mem _ (List.mem_append_right _ h)
set_option maxHeartbeats 4000000 in
set_option maxRecDepth 100000 in
theorem c_X0_hasSpan (l : Launch) (D : va_G) (cI cB cO : ClassId) (sz : Nat) (h0 h1 h2 n : Nat) (P : Int32) (i : Int32)  : CI l yX0_hasSpan wsX0_hasSpan ({ frames := 1, cells := 0, slots := 0, locals := 22 } : Room) D (tyL cI cB cO) [.ref h0, .int i] [(h0, .inr (0, [.int (nI n), .int P, .ref h1, .ref h2]))] sz (fun (r : Int32) (_ : Unit) => r = bI (inR i 0 (nI n - 1))) (fun (u : Unit) => [(h0, .inr (0, [.int (nI n), .int P, .ref h1, .ref h2]))]) 0 0 := by
  refine ct_of (cc := cX0_hasSpan) (maxL := 2) (ret := some .boolean) (own := RX0) (Qc := QI D (fun (r : Int32) (_ : Unit) => r = bI (inR i 0 (nI n - 1))) (fun (u : Unit) => [(h0, .inr (0, [.int (nI n), .int P, .ref h1, .ref h2]))])) (by decide) rfl rfl (Nat.le_of_ble_eq_true rfl) ?_
  intro pM eM sM mM below meth cM AM ls H locs hx hb hr hts hown hlocks hml hin hK hP hD hS hA hSt hl
  have hl : lv_has ls 2 [(0, .ref h0), (1, .int i)] := hl
  refine lv_iload_n hx hb dX0_hasSpan_0 rfl (lv_at hl 1 rfl) ?_
  refine lv_iconst (v := 0) hx hb dX0_hasSpan_1 (by decide) ?_
  refine lv_aload_n hx hb dX0_hasSpan_2 rfl (lv_at hl 0 rfl) ?_
  refine va_get (D := D) (ci := 0) (v := .int (nI n)) (C := RX0) (T := TX0) (N := 4) hx hb hts in_X0_hasSpan_0 hown hK hP 0 rfl rfl 0 (by decide) (hts (.fieldLink RX0 9 "HoseSpans$Line" "spans" "I") (List.mem_of_getElem? (i := 1) (by decide +kernel))) (fun _ h9 => h9) rfl dX0_hasSpan_3 ?_
  refine lv_iconst (v := 1) hx hb dX0_hasSpan_6 (by decide) ?_
  refine lv_isub hx hb dX0_hasSpan_7 ?_
  refine k_i (va_runSN (As := [.int i, .int 0, .int ((nI n) - 1)]) (rest := []) ⟨hx, hb, hml, hown, hts⟩ (c_X4_within l D cI cB cO H.size i 0 ((nI n) - 1) ) ⟨va_cnB 3 hts gX0_hasSpan_X4_within_n34 rfl rfl rfl hSt.1.1 (hts (.initialized RX4) (List.mem_of_getElem? (i := 3) (by decide +kernel))) (by decide +kernel) ⟨Nat.le_of_ble_eq_true rfl, Nat.le_of_ble_eq_true rfl⟩, (hts (.static yX4_within) (List.mem_of_getElem? (i := 2) (by decide +kernel))), trivial⟩ (preS_of hK hP hD hS hA hSt [] (by decide) rfl) rfl rfl hl.1 rfl (lv_room (Nat.le_of_ble_eq_true rfl)) dX0_hasSpan_8 ⟨Nat.le_of_ble_eq_true rfl, Nat.le_of_ble_eq_true rfl⟩) hP hD hS hA [] [0] [0] [(h0, .inr (0, [.int (nI n), .int P, .ref h1, .ref h2]))] (fun (u_1 : Unit) => [(h0, .inr (0, [.int (nI n), .int P, .ref h1, .ref h2]))]) rfl rfl (by decide) (by decide) (by decide) (fun _ => rfl) (fun r_1 u_1 H locs q_1 hP hD hS => ?_)
  obtain rfl : r_1 = bI (inR i 0 ((nI n) - 1)) := q_1
  refine e_z (u := ()) hx hb hr (by first | rfl | exact bI_nar _) hlocks hP hD hS dX0_hasSpan_11 ?_ ?_
  · rfl
  · rfl
theorem in_X0_hasNode_0 : ∀ w ∈ wsX00, w ∈ wsX0_hasNode := fun _ h => List.mem_cons_of_mem _ (List.mem_append_right _ h)
set_option maxHeartbeats 4000000 in
set_option maxRecDepth 100000 in
theorem c_X0_hasNode (l : Launch) (D : va_G) (cI cB cO : ClassId) (sz : Nat) (h0 h1 h2 n : Nat) (P : Int32) (i : Int32)  : CI l yX0_hasNode wsX0_hasNode ({ frames := 1, cells := 0, slots := 0, locals := 22 } : Room) D (tyL cI cB cO) [.ref h0, .int i] [(h0, .inr (0, [.int (nI n), .int P, .ref h1, .ref h2]))] sz (fun (r : Int32) (_ : Unit) => r = bI (inR i 0 (nI n))) (fun (u : Unit) => [(h0, .inr (0, [.int (nI n), .int P, .ref h1, .ref h2]))]) 0 0 := by
  refine ct_of (cc := cX0_hasNode) (maxL := 2) (ret := some .boolean) (own := RX0) (Qc := QI D (fun (r : Int32) (_ : Unit) => r = bI (inR i 0 (nI n))) (fun (u : Unit) => [(h0, .inr (0, [.int (nI n), .int P, .ref h1, .ref h2]))])) (by decide) rfl rfl (Nat.le_of_ble_eq_true rfl) ?_
  intro pM eM sM mM below meth cM AM ls H locs hx hb hr hts hown hlocks hml hin hK hP hD hS hA hSt hl
  have hl : lv_has ls 2 [(0, .ref h0), (1, .int i)] := hl
  refine lv_iload_n hx hb dX0_hasNode_0 rfl (lv_at hl 1 rfl) ?_
  refine lv_iconst (v := 0) hx hb dX0_hasNode_1 (by decide) ?_
  refine lv_aload_n hx hb dX0_hasNode_2 rfl (lv_at hl 0 rfl) ?_
  refine va_get (D := D) (ci := 0) (v := .int (nI n)) (C := RX0) (T := TX0) (N := 4) hx hb hts in_X0_hasNode_0 hown hK hP 0 rfl rfl 0 (by decide) (hts (.fieldLink RX0 9 "HoseSpans$Line" "spans" "I") (List.mem_of_getElem? (i := 1) (by decide +kernel))) (fun _ h9 => h9) rfl dX0_hasNode_3 ?_
  refine k_i (va_runSN (As := [.int i, .int 0, .int (nI n)]) (rest := []) ⟨hx, hb, hml, hown, hts⟩ (c_X4_within l D cI cB cO H.size i 0 (nI n) ) ⟨va_cnB 3 hts gX0_hasNode_X4_within_n34 rfl rfl rfl hSt.1.1 (hts (.initialized RX4) (List.mem_of_getElem? (i := 3) (by decide +kernel))) (by decide +kernel) ⟨Nat.le_of_ble_eq_true rfl, Nat.le_of_ble_eq_true rfl⟩, (hts (.static yX4_within) (List.mem_of_getElem? (i := 2) (by decide +kernel))), trivial⟩ (preS_of hK hP hD hS hA hSt [] (by decide) rfl) rfl rfl hl.1 rfl (lv_room (Nat.le_of_ble_eq_true rfl)) dX0_hasNode_6 ⟨Nat.le_of_ble_eq_true rfl, Nat.le_of_ble_eq_true rfl⟩) hP hD hS hA [] [0] [0] [(h0, .inr (0, [.int (nI n), .int P, .ref h1, .ref h2]))] (fun (u_1 : Unit) => [(h0, .inr (0, [.int (nI n), .int P, .ref h1, .ref h2]))]) rfl rfl (by decide) (by decide) (by decide) (fun _ => rfl) (fun r_1 u_1 H locs q_1 hP hD hS => ?_)
  obtain rfl : r_1 = bI (inR i 0 (nI n)) := q_1
  refine e_z (u := ()) hx hb hr (by first | rfl | exact bI_nar _) hlocks hP hD hS dX0_hasNode_9 ?_ ?_
  · rfl
  · rfl
set_option maxHeartbeats 4000000 in
set_option maxRecDepth 100000 in
theorem c_X0_hosesOf (l : Launch) (D : va_G) (cI cB cO : ClassId) (sz : Nat) (h0 h1 h2 n : Nat) (P : Int32) (F : Nat → Int32) (i : Nat) (hi : i < 10) : CI l yX0_hosesOf wsX0_hosesOf ({ frames := 1, cells := 0, slots := 0, locals := 22 } : Room) D (tyL cI cB cO) [.ref h0, .int (nI i)] [(h0, .inr (0, [.int (nI n), .int P, .ref h1, .ref h2])), (h1, .inl (cI, 50, .inl F))] sz (fun (r : Int32) (_ : Unit) => r = hosesF F i) (fun (u : Unit) => [(h0, .inr (0, [.int (nI n), .int P, .ref h1, .ref h2])), (h1, .inl (cI, 50, .inl F))]) 0 0 := by
  refine ct_of (cc := cX0_hosesOf) (maxL := 2) (ret := some .int) (own := RX0) (Qc := QI D (fun (r : Int32) (_ : Unit) => r = hosesF F i) (fun (u : Unit) => [(h0, .inr (0, [.int (nI n), .int P, .ref h1, .ref h2])), (h1, .inl (cI, 50, .inl F))])) (by decide) rfl rfl (Nat.le_of_ble_eq_true rfl) ?_
  intro pM eM sM mM below meth cM AM ls H locs hx hb hr hts hown hlocks hml hin hK hP hD hS hA hSt hl
  have hl : lv_has ls 2 [(0, .ref h0), (1, .int (nI i))] := hl
  refine lv_aload_n hx hb dX0_hosesOf_0 rfl (lv_at hl 0 rfl) ?_
  refine lv_iload_n hx hb dX0_hosesOf_1 rfl (lv_at hl 1 rfl) ?_
  refine lv_iconst (v := 3) hx hb dX0_hosesOf_2 (by decide) ?_
  refine k_i (va_runV (As := [.int (nI i), .int (nI 3)]) (rest := []) ⟨hx, hb, hml, hown, hts⟩ (c_X0_fact l D cI cB cO H.size h0 h1 h2 n P F i 3 (by first | assumption | omega)) (cwV 2 hts gX0_hosesOf_X0_fact rfl rfl rfl (by decide +kernel) ⟨Nat.le_of_ble_eq_true rfl, Nat.le_of_ble_eq_true rfl⟩) (preV_of hK hP hD hS hA hSt [0, 1] (by decide) rfl 0 (ci := 0) rfl rfl) rfl rfl hl.1 rfl (lv_room (Nat.le_of_ble_eq_true rfl)) dX0_hosesOf_3 ⟨Nat.le_of_ble_eq_true rfl, Nat.le_of_ble_eq_true rfl⟩) hP hD hS hA [0, 1] [] [0, 1] [] (fun (u_1 : Unit) => [(h0, .inr (0, [.int (nI n), .int P, .ref h1, .ref h2])), (h1, .inl (cI, 50, .inl F))]) rfl rfl (by decide) (by decide) (by decide) (fun _ => rfl) (fun r_1 u_1 H locs q_1 hP hD hS => ?_)
  obtain rfl : r_1 = F (i * 5 + 3) := q_1
  refine lv_iconst (v := 1) hx hb dX0_hosesOf_6 (by decide) ?_
  refine lv_icmp_ne (tgt := 21) hx hb dX0_hosesOf_7 (by decide) (fun c_2 => ?_) (fun c_2 => ?_)
  · refine lv_aload_n hx hb dX0_hosesOf_21 rfl (lv_at hl 0 rfl) ?_
    refine lv_iload_n hx hb dX0_hosesOf_22 rfl (lv_at hl 1 rfl) ?_
    refine lv_iconst (v := 0) hx hb dX0_hosesOf_23 (by decide) ?_
    refine k_i (va_runV (As := [.int (nI i), .int (nI 0)]) (rest := []) ⟨hx, hb, hml, hown, hts⟩ (c_X0_fact l D cI cB cO H.size h0 h1 h2 n P F i 0 (by first | assumption | omega)) (cwV 2 hts gX0_hosesOf_X0_fact rfl rfl rfl (by decide +kernel) ⟨Nat.le_of_ble_eq_true rfl, Nat.le_of_ble_eq_true rfl⟩) (preV_of hK hP hD hS hA hSt [0, 1] (by decide) rfl 0 (ci := 0) rfl rfl) rfl rfl hl.1 rfl (lv_room (Nat.le_of_ble_eq_true rfl)) dX0_hosesOf_24 ⟨Nat.le_of_ble_eq_true rfl, Nat.le_of_ble_eq_true rfl⟩) hP hD hS hA [0, 1] [] [0, 1] [] (fun (u_3 : Unit) => [(h0, .inr (0, [.int (nI n), .int P, .ref h1, .ref h2])), (h1, .inl (cI, 50, .inl F))]) rfl rfl (by decide) (by decide) (by decide) (fun _ => rfl) (fun r_3 u_3 H locs q_3 hP hD hS => ?_)
    obtain rfl : r_3 = F (i * 5 + 0) := q_3
    refine e_i (u := ()) hx hb hr hlocks hP hD hS dX0_hosesOf_27 ?_ ?_
    · rfl
    · unfold hosesF; first | (rw [if_pos (by assumption)]) | (rw [if_neg (by assumption)])
  · refine lv_iconst (v := 2) hx hb dX0_hosesOf_10 (by decide) ?_
    refine lv_aload_n hx hb dX0_hosesOf_11 rfl (lv_at hl 0 rfl) ?_
    refine lv_iload_n hx hb dX0_hosesOf_12 rfl (lv_at hl 1 rfl) ?_
    refine lv_iconst (v := 0) hx hb dX0_hosesOf_13 (by decide) ?_
    refine k_i (va_runV (As := [.int (nI i), .int (nI 0)]) (rest := [.int 2]) ⟨hx, hb, hml, hown, hts⟩ (c_X0_fact l D cI cB cO H.size h0 h1 h2 n P F i 0 (by first | assumption | omega)) (cwV 2 hts gX0_hosesOf_X0_fact rfl rfl rfl (by decide +kernel) ⟨Nat.le_of_ble_eq_true rfl, Nat.le_of_ble_eq_true rfl⟩) (preV_of hK hP hD hS hA hSt [0, 1] (by decide) rfl 0 (ci := 0) rfl rfl) rfl rfl hl.1 rfl (lv_room (Nat.le_of_ble_eq_true rfl)) dX0_hosesOf_14 ⟨Nat.le_of_ble_eq_true rfl, Nat.le_of_ble_eq_true rfl⟩) hP hD hS hA [0, 1] [] [0, 1] [] (fun (u_4 : Unit) => [(h0, .inr (0, [.int (nI n), .int P, .ref h1, .ref h2])), (h1, .inl (cI, 50, .inl F))]) rfl rfl (by decide) (by decide) (by decide) (fun _ => rfl) (fun r_4 u_4 H locs q_4 hP hD hS => ?_)
    obtain rfl : r_4 = F (i * 5 + 0) := q_4
    refine lv_imul hx hb dX0_hosesOf_17 ?_
    refine lv_goto (tgt := 27) hx hb dX0_hosesOf_18 (by decide) ?_
    refine e_i (u := ()) hx hb hr hlocks hP hD hS dX0_hosesOf_27 ?_ ?_
    · rfl
    · unfold hosesF; first | (rw [if_pos (by assumption)]) | (rw [if_neg (by assumption)])
set_option maxHeartbeats 4000000 in
set_option maxRecDepth 100000 in
theorem c_X0_lossBy (l : Launch) (D : va_G) (cI cB cO : ClassId) (sz : Nat) (h0 h1 h2 n : Nat) (P : Int32) (F : Nat → Int32) (i : Nat) (q : Int32) (hi : i < 10) (hs : vp_in (F (i * 5 + 1)) 4) : CI l yX0_lossBy wsX0_lossBy ({ frames := 1, cells := 0, slots := 0, locals := 22 } : Room) D (tyL cI cB cO) [.ref h0, .int (nI i), .int q] [(h0, .inr (0, [.int (nI n), .int P, .ref h1, .ref h2])), (h1, .inl (cI, 50, .inl F))] sz (fun (r : Int32) (_ : Unit) => r = lossF F i q) (fun (u : Unit) => [(h0, .inr (0, [.int (nI n), .int P, .ref h1, .ref h2])), (h1, .inl (cI, 50, .inl F))]) 0 0 := by
  refine ct_of (cc := cX0_lossBy) (maxL := 4) (ret := some .int) (own := RX0) (Qc := QI D (fun (r : Int32) (_ : Unit) => r = lossF F i q) (fun (u : Unit) => [(h0, .inr (0, [.int (nI n), .int P, .ref h1, .ref h2])), (h1, .inl (cI, 50, .inl F))])) (by decide) rfl rfl (Nat.le_of_ble_eq_true rfl) ?_
  intro pM eM sM mM below meth cM AM ls H locs hx hb hr hts hown hlocks hml hin hK hP hD hS hA hSt hl
  have hl : lv_has ls 4 [(0, .ref h0), (1, .int (nI i)), (2, .int q)] := hl
  refine lv_aload_n hx hb dX0_lossBy_0 rfl (lv_at hl 0 rfl) ?_
  refine lv_iload_n hx hb dX0_lossBy_1 rfl (lv_at hl 1 rfl) ?_
  refine lv_iconst (v := 3) hx hb dX0_lossBy_2 (by decide) ?_
  refine k_i (va_runV (As := [.int (nI i), .int (nI 3)]) (rest := []) ⟨hx, hb, hml, hown, hts⟩ (c_X0_fact l D cI cB cO H.size h0 h1 h2 n P F i 3 (by first | assumption | omega)) (cwV 2 hts gX0_lossBy_X0_fact rfl rfl rfl (by decide +kernel) ⟨Nat.le_of_ble_eq_true rfl, Nat.le_of_ble_eq_true rfl⟩) (preV_of hK hP hD hS hA hSt [0, 1] (by decide) rfl 0 (ci := 0) rfl rfl) rfl rfl hl.1 rfl (lv_room (Nat.le_of_ble_eq_true rfl)) dX0_lossBy_3 ⟨Nat.le_of_ble_eq_true rfl, Nat.le_of_ble_eq_true rfl⟩) hP hD hS hA [0, 1] [] [0, 1] [] (fun (u_1 : Unit) => [(h0, .inr (0, [.int (nI n), .int P, .ref h1, .ref h2])), (h1, .inl (cI, 50, .inl F))]) rfl rfl (by decide) (by decide) (by decide) (fun _ => rfl) (fun r_1 u_1 H locs q_1 hP hD hS => ?_)
  obtain rfl : r_1 = F (i * 5 + 3) := q_1
  refine lv_iconst (v := 1) hx hb dX0_lossBy_6 (by decide) ?_
  refine lv_icmp_ne (tgt := 18) hx hb dX0_lossBy_7 (by decide) (fun c_2 => ?_) (fun c_2 => ?_)
  · refine lv_iload_n hx hb dX0_lossBy_18 rfl (lv_at hl 2 rfl) ?_
    refine lv_istore_n (lv' := [(3, .int q), (0, .ref h0), (1, .int (nI i)), (2, .int q)]) hx hb dX0_lossBy_19 rfl hl (by decide) rfl (fun ls hl => ?_)
    refine lv_aload_n hx hb dX0_lossBy_20 rfl (lv_at hl 1 rfl) ?_
    refine lv_iload_n hx hb dX0_lossBy_21 rfl (lv_at hl 2 rfl) ?_
    refine lv_iconst (v := 0) hx hb dX0_lossBy_22 (by decide) ?_
    refine k_i (va_runV (As := [.int (nI i), .int (nI 0)]) (rest := []) ⟨hx, hb, hml, hown, hts⟩ (c_X0_fact l D cI cB cO H.size h0 h1 h2 n P F i 0 (by first | assumption | omega)) (cwV 2 hts gX0_lossBy_X0_fact rfl rfl rfl (by decide +kernel) ⟨Nat.le_of_ble_eq_true rfl, Nat.le_of_ble_eq_true rfl⟩) (preV_of hK hP hD hS hA hSt [0, 1] (by decide) rfl 0 (ci := 0) rfl rfl) rfl rfl hl.1 rfl (lv_room (Nat.le_of_ble_eq_true rfl)) dX0_lossBy_23 ⟨Nat.le_of_ble_eq_true rfl, Nat.le_of_ble_eq_true rfl⟩) hP hD hS hA [0, 1] [] [0, 1] [] (fun (u_3 : Unit) => [(h0, .inr (0, [.int (nI n), .int P, .ref h1, .ref h2])), (h1, .inl (cI, 50, .inl F))]) rfl rfl (by decide) (by decide) (by decide) (fun _ => rfl) (fun r_3 u_3 H locs q_3 hP hD hS => ?_)
    obtain rfl : r_3 = F (i * 5 + 0) := q_3
    obtain ⟨t_4, hZt_4, hTt_4⟩ := hSt.2.1
    refine va_getsN hx hb hZt_4 hS hown (va_Nw.use rfl hSt.1.2.2.2.2.2.2.2.2.1) (fun _ h9 => h9) dX0_lossBy_26 ?_
    refine lv_aload_n hx hb dX0_lossBy_29 rfl (lv_at hl 1 rfl) ?_
    refine lv_iload_n hx hb dX0_lossBy_30 rfl (lv_at hl 2 rfl) ?_
    refine lv_iconst (v := 1) hx hb dX0_lossBy_31 (by decide) ?_
    refine k_i (va_runV (As := [.int (nI i), .int (nI 1)]) (rest := [.ref t_4, .int (F (i * 5 + 0))]) ⟨hx, hb, hml, hown, hts⟩ (c_X0_fact l D cI cB cO H.size h0 h1 h2 n P F i 1 (by first | assumption | omega)) (cwV 2 hts gX0_lossBy_X0_fact rfl rfl rfl (by decide +kernel) ⟨Nat.le_of_ble_eq_true rfl, Nat.le_of_ble_eq_true rfl⟩) (preV_of hK hP hD hS hA hSt [0, 1] (by decide) rfl 0 (ci := 0) rfl rfl) rfl rfl hl.1 rfl (lv_room (Nat.le_of_ble_eq_true rfl)) dX0_lossBy_32 ⟨Nat.le_of_ble_eq_true rfl, Nat.le_of_ble_eq_true rfl⟩) hP hD hS hA [0, 1] [] [0, 1] [] (fun (u_5 : Unit) => [(h0, .inr (0, [.int (nI n), .int P, .ref h1, .ref h2])), (h1, .inl (cI, 50, .inl F))]) rfl rfl (by decide) (by decide) (by decide) (fun _ => rfl) (fun r_5 u_5 H locs q_5 hP hD hS => ?_)
    obtain rfl : r_5 = F (i * 5 + 1) := q_5
    refine va_ti hx hb hTt_4 hS (v := .int (kHard (Int32.toNatClampNeg (F (i * 5 + 1))))) hs rfl dX0_lossBy_35 ?_
    refine lv_imul hx hb dX0_lossBy_36 ?_
    refine lv_iload_n hx hb dX0_lossBy_37 rfl (lv_at hl 0 rfl) ?_
    refine lv_imul hx hb dX0_lossBy_38 ?_
    refine lv_iload_n hx hb dX0_lossBy_39 rfl (lv_at hl 0 rfl) ?_
    refine lv_imul hx hb dX0_lossBy_40 ?_
    refine lv_bipush (v := 100) hx hb dX0_lossBy_41 (by decide) ?_
    refine lv_idiv hx hb dX0_lossBy_43 (by decide) ?_
    refine lv_aload_n hx hb dX0_lossBy_44 rfl (lv_at hl 1 rfl) ?_
    refine lv_iload_n hx hb dX0_lossBy_45 rfl (lv_at hl 2 rfl) ?_
    refine lv_iconst (v := 2) hx hb dX0_lossBy_46 (by decide) ?_
    refine k_i (va_runV (As := [.int (nI i), .int (nI 2)]) (rest := [.int (((((F (i * 5 + 0)) * (kHard (Int32.toNatClampNeg (F (i * 5 + 1))))) * q) * q) / 100)]) ⟨hx, hb, hml, hown, hts⟩ (c_X0_fact l D cI cB cO H.size h0 h1 h2 n P F i 2 (by first | assumption | omega)) (cwV 2 hts gX0_lossBy_X0_fact rfl rfl rfl (by decide +kernel) ⟨Nat.le_of_ble_eq_true rfl, Nat.le_of_ble_eq_true rfl⟩) (preV_of hK hP hD hS hA hSt [0, 1] (by decide) rfl 0 (ci := 0) rfl rfl) rfl rfl hl.1 rfl (lv_room (Nat.le_of_ble_eq_true rfl)) dX0_lossBy_47 ⟨Nat.le_of_ble_eq_true rfl, Nat.le_of_ble_eq_true rfl⟩) hP hD hS hA [0, 1] [] [0, 1] [] (fun (u_6 : Unit) => [(h0, .inr (0, [.int (nI n), .int P, .ref h1, .ref h2])), (h1, .inl (cI, 50, .inl F))]) rfl rfl (by decide) (by decide) (by decide) (fun _ => rfl) (fun r_6 u_6 H locs q_6 hP hD hS => ?_)
    obtain rfl : r_6 = F (i * 5 + 2) := q_6
    refine lv_iadd hx hb dX0_lossBy_50 ?_
    refine e_i (u := ()) hx hb hr hlocks hP hD hS dX0_lossBy_51 ?_ ?_
    · rfl
    · unfold lossF flowF; first | (rw [if_pos (by assumption)]) | (rw [if_neg (by assumption)])
  · refine lv_iload_n hx hb dX0_lossBy_10 rfl (lv_at hl 2 rfl) ?_
    refine lv_iconst (v := 1) hx hb dX0_lossBy_11 (by decide) ?_
    refine lv_iadd hx hb dX0_lossBy_12 ?_
    refine lv_iconst (v := 2) hx hb dX0_lossBy_13 (by decide) ?_
    refine lv_idiv hx hb dX0_lossBy_14 (by decide) ?_
    refine lv_goto (tgt := 19) hx hb dX0_lossBy_15 (by decide) ?_
    refine lv_istore_n (lv' := [(3, .int ((q + 1) / 2)), (0, .ref h0), (1, .int (nI i)), (2, .int q)]) hx hb dX0_lossBy_19 rfl hl (by decide) rfl (fun ls hl => ?_)
    refine lv_aload_n hx hb dX0_lossBy_20 rfl (lv_at hl 1 rfl) ?_
    refine lv_iload_n hx hb dX0_lossBy_21 rfl (lv_at hl 2 rfl) ?_
    refine lv_iconst (v := 0) hx hb dX0_lossBy_22 (by decide) ?_
    refine k_i (va_runV (As := [.int (nI i), .int (nI 0)]) (rest := []) ⟨hx, hb, hml, hown, hts⟩ (c_X0_fact l D cI cB cO H.size h0 h1 h2 n P F i 0 (by first | assumption | omega)) (cwV 2 hts gX0_lossBy_X0_fact rfl rfl rfl (by decide +kernel) ⟨Nat.le_of_ble_eq_true rfl, Nat.le_of_ble_eq_true rfl⟩) (preV_of hK hP hD hS hA hSt [0, 1] (by decide) rfl 0 (ci := 0) rfl rfl) rfl rfl hl.1 rfl (lv_room (Nat.le_of_ble_eq_true rfl)) dX0_lossBy_23 ⟨Nat.le_of_ble_eq_true rfl, Nat.le_of_ble_eq_true rfl⟩) hP hD hS hA [0, 1] [] [0, 1] [] (fun (u_7 : Unit) => [(h0, .inr (0, [.int (nI n), .int P, .ref h1, .ref h2])), (h1, .inl (cI, 50, .inl F))]) rfl rfl (by decide) (by decide) (by decide) (fun _ => rfl) (fun r_7 u_7 H locs q_7 hP hD hS => ?_)
    obtain rfl : r_7 = F (i * 5 + 0) := q_7
    obtain ⟨t_8, hZt_8, hTt_8⟩ := hSt.2.1
    refine va_getsN hx hb hZt_8 hS hown (va_Nw.use rfl hSt.1.2.2.2.2.2.2.2.2.1) (fun _ h9 => h9) dX0_lossBy_26 ?_
    refine lv_aload_n hx hb dX0_lossBy_29 rfl (lv_at hl 1 rfl) ?_
    refine lv_iload_n hx hb dX0_lossBy_30 rfl (lv_at hl 2 rfl) ?_
    refine lv_iconst (v := 1) hx hb dX0_lossBy_31 (by decide) ?_
    refine k_i (va_runV (As := [.int (nI i), .int (nI 1)]) (rest := [.ref t_8, .int (F (i * 5 + 0))]) ⟨hx, hb, hml, hown, hts⟩ (c_X0_fact l D cI cB cO H.size h0 h1 h2 n P F i 1 (by first | assumption | omega)) (cwV 2 hts gX0_lossBy_X0_fact rfl rfl rfl (by decide +kernel) ⟨Nat.le_of_ble_eq_true rfl, Nat.le_of_ble_eq_true rfl⟩) (preV_of hK hP hD hS hA hSt [0, 1] (by decide) rfl 0 (ci := 0) rfl rfl) rfl rfl hl.1 rfl (lv_room (Nat.le_of_ble_eq_true rfl)) dX0_lossBy_32 ⟨Nat.le_of_ble_eq_true rfl, Nat.le_of_ble_eq_true rfl⟩) hP hD hS hA [0, 1] [] [0, 1] [] (fun (u_9 : Unit) => [(h0, .inr (0, [.int (nI n), .int P, .ref h1, .ref h2])), (h1, .inl (cI, 50, .inl F))]) rfl rfl (by decide) (by decide) (by decide) (fun _ => rfl) (fun r_9 u_9 H locs q_9 hP hD hS => ?_)
    obtain rfl : r_9 = F (i * 5 + 1) := q_9
    refine va_ti hx hb hTt_8 hS (v := .int (kHard (Int32.toNatClampNeg (F (i * 5 + 1))))) hs rfl dX0_lossBy_35 ?_
    refine lv_imul hx hb dX0_lossBy_36 ?_
    refine lv_iload_n hx hb dX0_lossBy_37 rfl (lv_at hl 0 rfl) ?_
    refine lv_imul hx hb dX0_lossBy_38 ?_
    refine lv_iload_n hx hb dX0_lossBy_39 rfl (lv_at hl 0 rfl) ?_
    refine lv_imul hx hb dX0_lossBy_40 ?_
    refine lv_bipush (v := 100) hx hb dX0_lossBy_41 (by decide) ?_
    refine lv_idiv hx hb dX0_lossBy_43 (by decide) ?_
    refine lv_aload_n hx hb dX0_lossBy_44 rfl (lv_at hl 1 rfl) ?_
    refine lv_iload_n hx hb dX0_lossBy_45 rfl (lv_at hl 2 rfl) ?_
    refine lv_iconst (v := 2) hx hb dX0_lossBy_46 (by decide) ?_
    refine k_i (va_runV (As := [.int (nI i), .int (nI 2)]) (rest := [.int (((((F (i * 5 + 0)) * (kHard (Int32.toNatClampNeg (F (i * 5 + 1))))) * ((q + 1) / 2)) * ((q + 1) / 2)) / 100)]) ⟨hx, hb, hml, hown, hts⟩ (c_X0_fact l D cI cB cO H.size h0 h1 h2 n P F i 2 (by first | assumption | omega)) (cwV 2 hts gX0_lossBy_X0_fact rfl rfl rfl (by decide +kernel) ⟨Nat.le_of_ble_eq_true rfl, Nat.le_of_ble_eq_true rfl⟩) (preV_of hK hP hD hS hA hSt [0, 1] (by decide) rfl 0 (ci := 0) rfl rfl) rfl rfl hl.1 rfl (lv_room (Nat.le_of_ble_eq_true rfl)) dX0_lossBy_47 ⟨Nat.le_of_ble_eq_true rfl, Nat.le_of_ble_eq_true rfl⟩) hP hD hS hA [0, 1] [] [0, 1] [] (fun (u_10 : Unit) => [(h0, .inr (0, [.int (nI n), .int P, .ref h1, .ref h2])), (h1, .inl (cI, 50, .inl F))]) rfl rfl (by decide) (by decide) (by decide) (fun _ => rfl) (fun r_10 u_10 H locs q_10 hP hD hS => ?_)
    obtain rfl : r_10 = F (i * 5 + 2) := q_10
    refine lv_iadd hx hb dX0_lossBy_50 ?_
    refine e_i (u := ()) hx hb hr hlocks hP hD hS dX0_lossBy_51 ?_ ?_
    · rfl
    · unfold lossF flowF; first | (rw [if_pos (by assumption)]) | (rw [if_neg (by assumption)])
set_option maxHeartbeats 4000000 in
set_option maxRecDepth 100000 in
theorem c_X0_failureOf (l : Launch) (D : va_G) (cI cB cO : ClassId) (sz : Nat) (h0 h1 h2 n : Nat) (P : Int32) (F : Nat → Int32) (i : Nat) (p q : Int32) (hi : i < 10) (hs : vp_in (F (i * 5 + 1)) 4) : CI l yX0_failureOf wsX0_failureOf ({ frames := 2, cells := 0, slots := 0, locals := 45 } : Room) D (tyL cI cB cO) [.ref h0, .int (nI i), .int p, .int q] [(h0, .inr (0, [.int (nI n), .int P, .ref h1, .ref h2])), (h1, .inl (cI, 50, .inl F))] sz (fun (r : Int32) (_ : Unit) => r = failF F i p q) (fun (u : Unit) => [(h0, .inr (0, [.int (nI n), .int P, .ref h1, .ref h2])), (h1, .inl (cI, 50, .inl F))]) 0 0 := by
  refine ct_of (cc := cX0_failureOf) (maxL := 4) (ret := some .int) (own := RX0) (Qc := QI D (fun (r : Int32) (_ : Unit) => r = failF F i p q) (fun (u : Unit) => [(h0, .inr (0, [.int (nI n), .int P, .ref h1, .ref h2])), (h1, .inl (cI, 50, .inl F))])) (by decide) rfl rfl (Nat.le_of_ble_eq_true rfl) ?_
  intro pM eM sM mM below meth cM AM ls H locs hx hb hr hts hown hlocks hml hin hK hP hD hS hA hSt hl
  have hl : lv_has ls 4 [(0, .ref h0), (1, .int (nI i)), (2, .int p), (3, .int q)] := hl
  refine lv_aload_n hx hb dX0_failureOf_0 rfl (lv_at hl 0 rfl) ?_
  refine lv_iload_n hx hb dX0_failureOf_1 rfl (lv_at hl 1 rfl) ?_
  refine lv_iconst (v := 4) hx hb dX0_failureOf_2 (by decide) ?_
  refine k_i (va_runV (As := [.int (nI i), .int (nI 4)]) (rest := []) ⟨hx, hb, hml, hown, hts⟩ (c_X0_fact l D cI cB cO H.size h0 h1 h2 n P F i 4 (by first | assumption | omega)) (cwV 2 hts gX0_failureOf_X0_fact rfl rfl rfl (by decide +kernel) ⟨Nat.le_of_ble_eq_true rfl, Nat.le_of_ble_eq_true rfl⟩) (preV_of hK hP hD hS hA hSt [0, 1] (by decide) rfl 0 (ci := 0) rfl rfl) rfl rfl hl.1 rfl (lv_room (Nat.le_of_ble_eq_true rfl)) dX0_failureOf_3 ⟨Nat.le_of_ble_eq_true rfl, Nat.le_of_ble_eq_true rfl⟩) hP hD hS hA [0, 1] [] [0, 1] [] (fun (u_1 : Unit) => [(h0, .inr (0, [.int (nI n), .int P, .ref h1, .ref h2])), (h1, .inl (cI, 50, .inl F))]) rfl rfl (by decide) (by decide) (by decide) (fun _ => rfl) (fun r_1 u_1 H locs q_1 hP hD hS => ?_)
  obtain rfl : r_1 = F (i * 5 + 4) := q_1
  refine lv_iconst (v := 1) hx hb dX0_failureOf_6 (by decide) ?_
  refine lv_icmp_ne (tgt := 12) hx hb dX0_failureOf_7 (by decide) (fun c_2 => ?_) (fun c_2 => ?_)
  · refine lv_iload_n hx hb dX0_failureOf_12 rfl (lv_at hl 2 rfl) ?_
    obtain ⟨t_3, hZt_3, hTt_3⟩ := hSt.2.2.1
    refine va_getsN hx hb hZt_3 hS hown (va_Nw.use rfl hSt.1.2.2.2.2.2.2.2.2.2.1) (fun _ h9 => h9) dX0_failureOf_13 ?_
    refine lv_aload_n hx hb dX0_failureOf_16 rfl (lv_at hl 0 rfl) ?_
    refine lv_iload_n hx hb dX0_failureOf_17 rfl (lv_at hl 1 rfl) ?_
    refine lv_iconst (v := 1) hx hb dX0_failureOf_18 (by decide) ?_
    refine k_i (va_runV (As := [.int (nI i), .int (nI 1)]) (rest := [.ref t_3, .int p]) ⟨hx, hb, hml, hown, hts⟩ (c_X0_fact l D cI cB cO H.size h0 h1 h2 n P F i 1 (by first | assumption | omega)) (cwV 2 hts gX0_failureOf_X0_fact rfl rfl rfl (by decide +kernel) ⟨Nat.le_of_ble_eq_true rfl, Nat.le_of_ble_eq_true rfl⟩) (preV_of hK hP hD hS hA hSt [0, 1] (by decide) rfl 0 (ci := 0) rfl rfl) rfl rfl hl.1 rfl (lv_room (Nat.le_of_ble_eq_true rfl)) dX0_failureOf_19 ⟨Nat.le_of_ble_eq_true rfl, Nat.le_of_ble_eq_true rfl⟩) hP hD hS hA [0, 1] [] [0, 1] [] (fun (u_4 : Unit) => [(h0, .inr (0, [.int (nI n), .int P, .ref h1, .ref h2])), (h1, .inl (cI, 50, .inl F))]) rfl rfl (by decide) (by decide) (by decide) (fun _ => rfl) (fun r_4 u_4 H locs q_4 hP hD hS => ?_)
    obtain rfl : r_4 = F (i * 5 + 1) := q_4
    refine va_ti hx hb hTt_3 hS (v := .int (kStands (Int32.toNatClampNeg (F (i * 5 + 1))))) hs rfl dX0_failureOf_22 ?_
    refine lv_icmp_le (tgt := 28) hx hb dX0_failureOf_23 (by decide) (fun c_5 => ?_) (fun c_5 => ?_)
    · have c_5 := Int32.not_lt.mpr c_5
      refine lv_iload_n hx hb dX0_failureOf_28 rfl (lv_at hl 2 rfl) ?_
      refine lv_aload_n hx hb dX0_failureOf_29 rfl (lv_at hl 0 rfl) ?_
      refine lv_iload_n hx hb dX0_failureOf_30 rfl (lv_at hl 1 rfl) ?_
      refine lv_iload_n hx hb dX0_failureOf_31 rfl (lv_at hl 3 rfl) ?_
      refine k_i (va_runV (As := [.int (nI i), .int q]) (rest := [.int p]) ⟨hx, hb, hml, hown, hts⟩ (c_X0_lossBy l D cI cB cO H.size h0 h1 h2 n P F i q (by first | assumption | omega) (by first | assumption | omega)) (cwV 2 hts gX0_failureOf_X0_lossBy rfl rfl rfl (by decide +kernel) ⟨Nat.le_of_ble_eq_true rfl, Nat.le_of_ble_eq_true rfl⟩) (preV_of hK hP hD hS hA hSt [0, 1] (by decide) rfl 0 (ci := 0) rfl rfl) rfl rfl hl.1 rfl (lv_room (Nat.le_of_ble_eq_true rfl)) dX0_failureOf_32 ⟨Nat.le_of_ble_eq_true rfl, Nat.le_of_ble_eq_true rfl⟩) hP hD hS hA [0, 1] [] [0, 1] [] (fun (u_6 : Unit) => [(h0, .inr (0, [.int (nI n), .int P, .ref h1, .ref h2])), (h1, .inl (cI, 50, .inl F))]) rfl rfl (by decide) (by decide) (by decide) (fun _ => rfl) (fun r_6 u_6 H locs q_6 hP hD hS => ?_)
      obtain rfl : r_6 = lossF F i q := q_6
      refine lv_isub hx hb dX0_failureOf_35 ?_
      refine lv_if_ge (tgt := 43) hx hb dX0_failureOf_36 (by decide) (fun c_7 => ?_) (fun c_7 => ?_)
      · have c_7 := Int32.not_lt.mpr c_7
        refine lv_iconst (v := 0) hx hb dX0_failureOf_43 (by decide) ?_
        refine e_i (u := ()) hx hb hr hlocks hP hD hS dX0_failureOf_44 ?_ ?_
        · rfl
        · unfold failF; first | (rw [if_pos (by assumption)]) | (rw [if_neg (by assumption), if_pos (by assumption)]) | (rw [if_neg (by assumption), if_neg (by assumption), if_pos (by assumption)]) | (rw [if_neg (by assumption), if_neg (by assumption), if_neg (by assumption)])
      · have c_7 := Int32.not_le.mp c_7
        refine lv_iconst (v := 3) hx hb dX0_failureOf_39 (by decide) ?_
        refine lv_goto (tgt := 44) hx hb dX0_failureOf_40 (by decide) ?_
        refine e_i (u := ()) hx hb hr hlocks hP hD hS dX0_failureOf_44 ?_ ?_
        · rfl
        · unfold failF; first | (rw [if_pos (by assumption)]) | (rw [if_neg (by assumption), if_pos (by assumption)]) | (rw [if_neg (by assumption), if_neg (by assumption), if_pos (by assumption)]) | (rw [if_neg (by assumption), if_neg (by assumption), if_neg (by assumption)])
    · have c_5 := Int32.not_le.mp c_5
      refine lv_iconst (v := 4) hx hb dX0_failureOf_26 (by decide) ?_
      refine e_i (u := ()) hx hb hr hlocks hP hD hS dX0_failureOf_27 ?_ ?_
      · rfl
      · unfold failF; first | (rw [if_pos (by assumption)]) | (rw [if_neg (by assumption), if_pos (by assumption)]) | (rw [if_neg (by assumption), if_neg (by assumption), if_pos (by assumption)]) | (rw [if_neg (by assumption), if_neg (by assumption), if_neg (by assumption)])
  · refine lv_iconst (v := 1) hx hb dX0_failureOf_10 (by decide) ?_
    refine e_i (u := ()) hx hb hr hlocks hP hD hS dX0_failureOf_11 ?_ ?_
    · rfl
    · unfold failF; first | (rw [if_pos (by assumption)]) | (rw [if_neg (by assumption), if_pos (by assumption)]) | (rw [if_neg (by assumption), if_neg (by assumption), if_pos (by assumption)]) | (rw [if_neg (by assumption), if_neg (by assumption), if_neg (by assumption)])
theorem in_X0_hasPump_0 : ∀ w ∈ wsX00, w ∈ wsX0_hasPump := fun _ h => List.mem_cons_of_mem _ (List.mem_append_right _ h)
set_option maxHeartbeats 4000000 in
set_option maxRecDepth 100000 in
theorem c_X0_hasPump (l : Launch) (D : va_G) (cI cB cO : ClassId) (sz : Nat) (h0 h1 h2 n p : Nat) (i : Nat) (hi : i ≤ 10) : CI l yX0_hasPump wsX0_hasPump ({ frames := 0, cells := 0, slots := 0, locals := 0 } : Room) D (tyL cI cB cO) [.ref h0, .int (nI i)] [(h0, .inr (0, [.int (nI n), .int (nI p), .ref h1, .ref h2]))] sz (fun (r : Int32) (_ : Unit) => r = bI (p.testBit i)) (fun (u : Unit) => [(h0, .inr (0, [.int (nI n), .int (nI p), .ref h1, .ref h2]))]) 0 0 := by
  refine ct_of (cc := cX0_hasPump) (maxL := 2) (ret := some .boolean) (own := RX0) (Qc := QI D (fun (r : Int32) (_ : Unit) => r = bI (p.testBit i)) (fun (u : Unit) => [(h0, .inr (0, [.int (nI n), .int (nI p), .ref h1, .ref h2]))])) (by decide) rfl rfl (Nat.le_of_ble_eq_true rfl) ?_
  intro pM eM sM mM below meth cM AM ls H locs hx hb hr hts hown hlocks hml hin hK hP hD hS hA hSt hl
  have hl : lv_has ls 2 [(0, .ref h0), (1, .int (nI i))] := hl
  refine lv_aload_n hx hb dX0_hasPump_0 rfl (lv_at hl 0 rfl) ?_
  refine va_get (D := D) (ci := 0) (v := .int (nI p)) (C := RX0) (T := TX0) (N := 4) hx hb hts in_X0_hasPump_0 hown hK hP 0 rfl rfl 1 (by decide) (hts (.fieldLink RX0 15 "HoseSpans$Line" "pumps" "I") (List.mem_of_getElem? (i := 1) (by decide +kernel))) (fun _ h9 => h9) rfl dX0_hasPump_1 ?_
  refine lv_iconst (v := 1) hx hb dX0_hasPump_4 (by decide) ?_
  refine lv_iload_n hx hb dX0_hasPump_5 rfl (lv_at hl 1 rfl) ?_
  refine lv_ishl hx hb dX0_hasPump_6 ?_
  refine lv_iand hx hb dX0_hasPump_7 ?_
  refine lv_if_eq (tgt := 15) hx hb dX0_hasPump_8 (by decide) (fun c_1 => ?_) (fun c_1 => ?_)
  · refine lv_iconst (v := 0) hx hb dX0_hasPump_15 (by decide) ?_
    refine e_z (u := ()) hx hb hr (by first | rfl | exact bI_nar _) hlocks hP hD hS dX0_hasPump_16 ?_ ?_
    · rfl
    · first | exact bI_f ((bit_0 hi).mp (by assumption)) | exact bI_t (b_nf (fun h => absurd ((bit_0 hi).mpr h) (by assumption)))
  · refine lv_iconst (v := 1) hx hb dX0_hasPump_11 (by decide) ?_
    refine lv_goto (tgt := 16) hx hb dX0_hasPump_12 (by decide) ?_
    refine e_z (u := ()) hx hb hr (by first | rfl | exact bI_nar _) hlocks hP hD hS dX0_hasPump_16 ?_ ?_
    · rfl
    · first | exact bI_f ((bit_0 hi).mp (by assumption)) | exact bI_t (b_nf (fun h => absurd ((bit_0 hi).mpr h) (by assumption)))
theorem in_X0_addSpan_0 : ∀ w ∈ wsX00, w ∈ wsX0_addSpan := fun _ h => List.mem_cons_of_mem _ (List.mem_append_right _ h)
set_option maxHeartbeats 4000000 in
set_option maxRecDepth 100000 in
theorem c_X0_addSpan (l : Launch) (D : va_G) (cI cB cO : ClassId) (sz : Nat) (h0 h1 h2 n : Nat) (P : Int32) (F G : Nat → Int32) (mm ss rr tt : Int32) (hn : n ≤ 10) : CI l yX0_addSpan wsX0_addSpan ({ frames := 1, cells := 0, slots := 0, locals := 23 } : Room) D (tyL cI cB cO) [.ref h0, .int mm, .int ss, .int rr, .int tt] [(h0, .inr (0, [.int (nI n), .int P, .ref h1, .ref h2])), (h1, .inl (cI, 50, .inl F)), (h2, .inl (cI, 6, .inl G))] sz (fun (ans : Int32) (u : Ln) => (ans, u) = sSpan (n, P, F, G) mm ss rr tt) (fun (u : Ln) => [(h0, .inr (0, [.int (nI u.1), .int u.2.1, .ref h1, .ref h2])), (h1, .inl (cI, 50, .inl u.2.2.1)), (h2, .inl (cI, 6, .inl u.2.2.2))]) 0 0 := by
  refine ct_of (cc := cX0_addSpan) (maxL := 5) (ret := some .int) (own := RX0) (Qc := QI D (fun (ans : Int32) (u : Ln) => (ans, u) = sSpan (n, P, F, G) mm ss rr tt) (fun (u : Ln) => [(h0, .inr (0, [.int (nI u.1), .int u.2.1, .ref h1, .ref h2])), (h1, .inl (cI, 50, .inl u.2.2.1)), (h2, .inl (cI, 6, .inl u.2.2.2))])) (by decide) rfl rfl (Nat.le_of_ble_eq_true rfl) ?_
  intro pM eM sM mM below meth cM AM ls H locs hx hb hr hts hown hlocks hml hin hK hP hD hS hA hSt hl
  have hl : lv_has ls 5 [(0, .ref h0), (1, .int mm), (2, .int ss), (3, .int rr), (4, .int tt)] := hl
  refine lv_iload_n hx hb dX0_addSpan_0 rfl (lv_at hl 1 rfl) ?_
  refine lv_iconst (v := 1) hx hb dX0_addSpan_1 (by decide) ?_
  refine lv_bipush (v := 30) hx hb dX0_addSpan_2 (by decide) ?_
  refine k_i (va_runSN (As := [.int mm, .int 1, .int 30]) (rest := []) ⟨hx, hb, hml, hown, hts⟩ (c_X4_within l D cI cB cO H.size mm 1 30 ) ⟨va_cnB 3 hts gX0_addSpan_X4_within_n34 rfl rfl rfl hSt.1.1 (hts (.initialized RX4) (List.mem_of_getElem? (i := 5) (by decide +kernel))) (by decide +kernel) ⟨Nat.le_of_ble_eq_true rfl, Nat.le_of_ble_eq_true rfl⟩, (hts (.static yX4_within) (List.mem_of_getElem? (i := 4) (by decide +kernel))), trivial⟩ (preS_of hK hP hD hS hA hSt [] (by decide) rfl) rfl rfl hl.1 rfl (lv_room (Nat.le_of_ble_eq_true rfl)) dX0_addSpan_4 ⟨Nat.le_of_ble_eq_true rfl, Nat.le_of_ble_eq_true rfl⟩) hP hD hS hA [] [0, 1, 2] [0, 1, 2] [(h0, .inr (0, [.int (nI n), .int P, .ref h1, .ref h2])), (h1, .inl (cI, 50, .inl F)), (h2, .inl (cI, 6, .inl G))] (fun (u_1 : Unit) => [(h0, .inr (0, [.int (nI n), .int P, .ref h1, .ref h2])), (h1, .inl (cI, 50, .inl F)), (h2, .inl (cI, 6, .inl G))]) rfl rfl (by decide) (by decide) (by decide) (fun _ => rfl) (fun r_1 u_1 H locs q_1 hP hD hS => ?_)
  obtain rfl : r_1 = bI (inR mm 1 30) := q_1
  refine lv_if_eq (tgt := 40) hx hb dX0_addSpan_7 (by decide) (fun c_2 => ?_) (fun c_2 => ?_)
  · have c_2 := bI_0.mp c_2
    refine lv_ldc (v := -1000002) hx hb hown (hts (.constant RX0 38 (-1000002)) (List.mem_of_getElem? (i := 1) (by decide +kernel))) dX0_addSpan_40 ?_
    refine e_i (u := (n, P, F, G)) hx hb hr hlocks hP hD hS dX0_addSpan_42 ?_ ?_
    · rfl
    · first | exact (sSpan_f1 (by assumption)).symm | exact (sSpan_f2 (by assumption)).symm | exact (sSpan_f3 (by assumption)).symm | exact (sSpan_f4 (by assumption)).symm
  · have c_2 := bI_n0.mp c_2
    refine lv_iload_n hx hb dX0_addSpan_10 rfl (lv_at hl 2 rfl) ?_
    refine lv_iconst (v := 0) hx hb dX0_addSpan_11 (by decide) ?_
    refine lv_iconst (v := 3) hx hb dX0_addSpan_12 (by decide) ?_
    refine k_i (va_runSN (As := [.int ss, .int 0, .int 3]) (rest := []) ⟨hx, hb, hml, hown, hts⟩ (c_X4_within l D cI cB cO H.size ss 0 3 ) ⟨va_cnB 3 hts gX0_addSpan_X4_within_n34 rfl rfl rfl hSt.1.1 (hts (.initialized RX4) (List.mem_of_getElem? (i := 5) (by decide +kernel))) (by decide +kernel) ⟨Nat.le_of_ble_eq_true rfl, Nat.le_of_ble_eq_true rfl⟩, (hts (.static yX4_within) (List.mem_of_getElem? (i := 4) (by decide +kernel))), trivial⟩ (preS_of hK hP hD hS hA hSt [] (by decide) rfl) rfl rfl hl.1 rfl (lv_room (Nat.le_of_ble_eq_true rfl)) dX0_addSpan_13 ⟨Nat.le_of_ble_eq_true rfl, Nat.le_of_ble_eq_true rfl⟩) hP hD hS hA [] [0, 1, 2] [0, 1, 2] [(h0, .inr (0, [.int (nI n), .int P, .ref h1, .ref h2])), (h1, .inl (cI, 50, .inl F)), (h2, .inl (cI, 6, .inl G))] (fun (u_3 : Unit) => [(h0, .inr (0, [.int (nI n), .int P, .ref h1, .ref h2])), (h1, .inl (cI, 50, .inl F)), (h2, .inl (cI, 6, .inl G))]) rfl rfl (by decide) (by decide) (by decide) (fun _ => rfl) (fun r_3 u_3 H locs q_3 hP hD hS => ?_)
    obtain rfl : r_3 = bI (inR ss 0 3) := q_3
    refine lv_if_eq (tgt := 40) hx hb dX0_addSpan_16 (by decide) (fun c_4 => ?_) (fun c_4 => ?_)
    · have c_4 := bI_0.mp c_4
      refine lv_ldc (v := -1000002) hx hb hown (hts (.constant RX0 38 (-1000002)) (List.mem_of_getElem? (i := 1) (by decide +kernel))) dX0_addSpan_40 ?_
      refine e_i (u := (n, P, F, G)) hx hb hr hlocks hP hD hS dX0_addSpan_42 ?_ ?_
      · rfl
      · first | exact (sSpan_f1 (by assumption)).symm | exact (sSpan_f2 (by assumption)).symm | exact (sSpan_f3 (by assumption)).symm | exact (sSpan_f4 (by assumption)).symm
    · have c_4 := bI_n0.mp c_4
      refine lv_iload_n hx hb dX0_addSpan_19 rfl (lv_at hl 3 rfl) ?_
      refine lv_bipush (v := -50) hx hb dX0_addSpan_20 (by decide) ?_
      refine lv_bipush (v := 50) hx hb dX0_addSpan_22 (by decide) ?_
      refine k_i (va_runSN (As := [.int rr, .int (-50), .int 50]) (rest := []) ⟨hx, hb, hml, hown, hts⟩ (c_X4_within l D cI cB cO H.size rr (-50) 50 ) ⟨va_cnB 3 hts gX0_addSpan_X4_within_n34 rfl rfl rfl hSt.1.1 (hts (.initialized RX4) (List.mem_of_getElem? (i := 5) (by decide +kernel))) (by decide +kernel) ⟨Nat.le_of_ble_eq_true rfl, Nat.le_of_ble_eq_true rfl⟩, (hts (.static yX4_within) (List.mem_of_getElem? (i := 4) (by decide +kernel))), trivial⟩ (preS_of hK hP hD hS hA hSt [] (by decide) rfl) rfl rfl hl.1 rfl (lv_room (Nat.le_of_ble_eq_true rfl)) dX0_addSpan_24 ⟨Nat.le_of_ble_eq_true rfl, Nat.le_of_ble_eq_true rfl⟩) hP hD hS hA [] [0, 1, 2] [0, 1, 2] [(h0, .inr (0, [.int (nI n), .int P, .ref h1, .ref h2])), (h1, .inl (cI, 50, .inl F)), (h2, .inl (cI, 6, .inl G))] (fun (u_5 : Unit) => [(h0, .inr (0, [.int (nI n), .int P, .ref h1, .ref h2])), (h1, .inl (cI, 50, .inl F)), (h2, .inl (cI, 6, .inl G))]) rfl rfl (by decide) (by decide) (by decide) (fun _ => rfl) (fun r_5 u_5 H locs q_5 hP hD hS => ?_)
      obtain rfl : r_5 = bI (inR rr (-50) 50) := q_5
      refine lv_if_eq (tgt := 40) hx hb dX0_addSpan_27 (by decide) (fun c_6 => ?_) (fun c_6 => ?_)
      · have c_6 := bI_0.mp c_6
        refine lv_ldc (v := -1000002) hx hb hown (hts (.constant RX0 38 (-1000002)) (List.mem_of_getElem? (i := 1) (by decide +kernel))) dX0_addSpan_40 ?_
        refine e_i (u := (n, P, F, G)) hx hb hr hlocks hP hD hS dX0_addSpan_42 ?_ ?_
        · rfl
        · first | exact (sSpan_f1 (by assumption)).symm | exact (sSpan_f2 (by assumption)).symm | exact (sSpan_f3 (by assumption)).symm | exact (sSpan_f4 (by assumption)).symm
      · have c_6 := bI_n0.mp c_6
        refine lv_iload hx hb dX0_addSpan_30 (lv_at hl 4 rfl) ?_
        refine lv_iconst (v := 0) hx hb dX0_addSpan_32 (by decide) ?_
        refine lv_iconst (v := 1) hx hb dX0_addSpan_33 (by decide) ?_
        refine k_i (va_runSN (As := [.int tt, .int 0, .int 1]) (rest := []) ⟨hx, hb, hml, hown, hts⟩ (c_X4_within l D cI cB cO H.size tt 0 1 ) ⟨va_cnB 3 hts gX0_addSpan_X4_within_n34 rfl rfl rfl hSt.1.1 (hts (.initialized RX4) (List.mem_of_getElem? (i := 5) (by decide +kernel))) (by decide +kernel) ⟨Nat.le_of_ble_eq_true rfl, Nat.le_of_ble_eq_true rfl⟩, (hts (.static yX4_within) (List.mem_of_getElem? (i := 4) (by decide +kernel))), trivial⟩ (preS_of hK hP hD hS hA hSt [] (by decide) rfl) rfl rfl hl.1 rfl (lv_room (Nat.le_of_ble_eq_true rfl)) dX0_addSpan_34 ⟨Nat.le_of_ble_eq_true rfl, Nat.le_of_ble_eq_true rfl⟩) hP hD hS hA [] [0, 1, 2] [0, 1, 2] [(h0, .inr (0, [.int (nI n), .int P, .ref h1, .ref h2])), (h1, .inl (cI, 50, .inl F)), (h2, .inl (cI, 6, .inl G))] (fun (u_7 : Unit) => [(h0, .inr (0, [.int (nI n), .int P, .ref h1, .ref h2])), (h1, .inl (cI, 50, .inl F)), (h2, .inl (cI, 6, .inl G))]) rfl rfl (by decide) (by decide) (by decide) (fun _ => rfl) (fun r_7 u_7 H locs q_7 hP hD hS => ?_)
        obtain rfl : r_7 = bI (inR tt 0 1) := q_7
        refine lv_if_ne (tgt := 43) hx hb dX0_addSpan_37 (by decide) (fun c_8 => ?_) (fun c_8 => ?_)
        · have c_8 := bI_n0.mp c_8
          refine lv_aload_n hx hb dX0_addSpan_43 rfl (lv_at hl 0 rfl) ?_
          refine va_get (D := D) (ci := 0) (v := .int (nI n)) (C := RX0) (T := TX0) (N := 4) hx hb hts in_X0_addSpan_0 hown hK hP 0 rfl rfl 0 (by decide) (hts (.fieldLink RX0 9 "HoseSpans$Line" "spans" "I") (List.mem_of_getElem? (i := 2) (by decide +kernel))) (fun _ h9 => h9) rfl dX0_addSpan_44 ?_
          refine lv_bipush (v := 10) hx hb dX0_addSpan_47 (by decide) ?_
          refine lv_icmp_lt (tgt := 55) hx hb dX0_addSpan_49 (by decide) (fun c_9 => ?_) (fun c_9 => ?_)
          · have c_9 : n < 10 := (nI_ltI (by omega) (by decide)).mp c_9
            refine lv_aload_n hx hb dX0_addSpan_55 rfl (lv_at hl 0 rfl) ?_
            refine lv_aload_n hx hb dX0_addSpan_56 rfl (lv_at hl 0 rfl) ?_
            refine va_get (D := D) (ci := 0) (v := .int (nI n)) (C := RX0) (T := TX0) (N := 4) hx hb hts in_X0_addSpan_0 hown hK hP 0 rfl rfl 0 (by decide) (hts (.fieldLink RX0 9 "HoseSpans$Line" "spans" "I") (List.mem_of_getElem? (i := 2) (by decide +kernel))) (fun _ h9 => h9) rfl dX0_addSpan_57 ?_
            refine lv_iconst (v := 0) hx hb dX0_addSpan_60 (by decide) ?_
            refine lv_iload_n hx hb dX0_addSpan_61 rfl (lv_at hl 1 rfl) ?_
            refine k_v (va_runV (As := [.int (nI n), .int (nI 0), .int mm]) (rest := []) ⟨hx, hb, hml, hown, hts⟩ (c_X0_setFact l D cI cB cO H.size h0 h1 h2 n P F n 0 mm (by first | assumption | omega)) (cwV 3 hts gX0_addSpan_X0_setFact rfl rfl rfl (by decide +kernel) ⟨Nat.le_of_ble_eq_true rfl, Nat.le_of_ble_eq_true rfl⟩) (preV_of hK hP hD hS hA hSt [0, 1] (by decide) rfl 0 (ci := 0) rfl rfl) rfl rfl hl.1 rfl (lv_room (Nat.le_of_ble_eq_true rfl)) dX0_addSpan_62 ⟨Nat.le_of_ble_eq_true rfl, Nat.le_of_ble_eq_true rfl⟩) hP hD hS hA [0, 1] [2] [1, 2, 0] [(h2, .inl (cI, 6, .inl G))] (fun (u_10 : Unit) => [(h0, .inr (0, [.int (nI n), .int P, .ref h1, .ref h2])), (h1, .inl (cI, 50, .inl (upd F (n * 5 + 0) mm))), (h2, .inl (cI, 6, .inl G))]) rfl rfl (by decide) (by decide) (by decide) (fun _ => rfl) (fun u_10 H locs q_10 hP hD hS => ?_)
            refine lv_aload_n hx hb dX0_addSpan_65 rfl (lv_at hl 0 rfl) ?_
            refine lv_aload_n hx hb dX0_addSpan_66 rfl (lv_at hl 0 rfl) ?_
            refine va_get (D := D) (ci := 0) (v := .int (nI n)) (C := RX0) (T := TX0) (N := 4) hx hb hts in_X0_addSpan_0 hown hK hP 0 rfl rfl 0 (by decide) (hts (.fieldLink RX0 9 "HoseSpans$Line" "spans" "I") (List.mem_of_getElem? (i := 2) (by decide +kernel))) (fun _ h9 => h9) rfl dX0_addSpan_67 ?_
            refine lv_iconst (v := 1) hx hb dX0_addSpan_70 (by decide) ?_
            refine lv_iload_n hx hb dX0_addSpan_71 rfl (lv_at hl 2 rfl) ?_
            refine k_v (va_runV (As := [.int (nI n), .int (nI 1), .int ss]) (rest := []) ⟨hx, hb, hml, hown, hts⟩ (c_X0_setFact l D cI cB cO H.size h0 h1 h2 n P (upd F (n * 5 + 0) mm) n 1 ss (by first | assumption | omega)) (cwV 3 hts gX0_addSpan_X0_setFact rfl rfl rfl (by decide +kernel) ⟨Nat.le_of_ble_eq_true rfl, Nat.le_of_ble_eq_true rfl⟩) (preV_of hK hP hD hS hA hSt [0, 1] (by decide) rfl 0 (ci := 0) rfl rfl) rfl rfl hl.1 rfl (lv_room (Nat.le_of_ble_eq_true rfl)) dX0_addSpan_72 ⟨Nat.le_of_ble_eq_true rfl, Nat.le_of_ble_eq_true rfl⟩) hP hD hS hA [0, 1] [2] [1, 2, 0] [(h2, .inl (cI, 6, .inl G))] (fun (u_11 : Unit) => [(h0, .inr (0, [.int (nI n), .int P, .ref h1, .ref h2])), (h1, .inl (cI, 50, .inl (upd (upd F (n * 5 + 0) mm) (n * 5 + 1) ss))), (h2, .inl (cI, 6, .inl G))]) rfl rfl (by decide) (by decide) (by decide) (fun _ => rfl) (fun u_11 H locs q_11 hP hD hS => ?_)
            refine lv_aload_n hx hb dX0_addSpan_75 rfl (lv_at hl 0 rfl) ?_
            refine lv_aload_n hx hb dX0_addSpan_76 rfl (lv_at hl 0 rfl) ?_
            refine va_get (D := D) (ci := 0) (v := .int (nI n)) (C := RX0) (T := TX0) (N := 4) hx hb hts in_X0_addSpan_0 hown hK hP 0 rfl rfl 0 (by decide) (hts (.fieldLink RX0 9 "HoseSpans$Line" "spans" "I") (List.mem_of_getElem? (i := 2) (by decide +kernel))) (fun _ h9 => h9) rfl dX0_addSpan_77 ?_
            refine lv_iconst (v := 2) hx hb dX0_addSpan_80 (by decide) ?_
            refine lv_iload_n hx hb dX0_addSpan_81 rfl (lv_at hl 3 rfl) ?_
            refine k_v (va_runV (As := [.int (nI n), .int (nI 2), .int rr]) (rest := []) ⟨hx, hb, hml, hown, hts⟩ (c_X0_setFact l D cI cB cO H.size h0 h1 h2 n P (upd (upd F (n * 5 + 0) mm) (n * 5 + 1) ss) n 2 rr (by first | assumption | omega)) (cwV 3 hts gX0_addSpan_X0_setFact rfl rfl rfl (by decide +kernel) ⟨Nat.le_of_ble_eq_true rfl, Nat.le_of_ble_eq_true rfl⟩) (preV_of hK hP hD hS hA hSt [0, 1] (by decide) rfl 0 (ci := 0) rfl rfl) rfl rfl hl.1 rfl (lv_room (Nat.le_of_ble_eq_true rfl)) dX0_addSpan_82 ⟨Nat.le_of_ble_eq_true rfl, Nat.le_of_ble_eq_true rfl⟩) hP hD hS hA [0, 1] [2] [1, 2, 0] [(h2, .inl (cI, 6, .inl G))] (fun (u_12 : Unit) => [(h0, .inr (0, [.int (nI n), .int P, .ref h1, .ref h2])), (h1, .inl (cI, 50, .inl (upd (upd (upd F (n * 5 + 0) mm) (n * 5 + 1) ss) (n * 5 + 2) rr))), (h2, .inl (cI, 6, .inl G))]) rfl rfl (by decide) (by decide) (by decide) (fun _ => rfl) (fun u_12 H locs q_12 hP hD hS => ?_)
            refine lv_aload_n hx hb dX0_addSpan_85 rfl (lv_at hl 0 rfl) ?_
            refine lv_aload_n hx hb dX0_addSpan_86 rfl (lv_at hl 0 rfl) ?_
            refine va_get (D := D) (ci := 0) (v := .int (nI n)) (C := RX0) (T := TX0) (N := 4) hx hb hts in_X0_addSpan_0 hown hK hP 0 rfl rfl 0 (by decide) (hts (.fieldLink RX0 9 "HoseSpans$Line" "spans" "I") (List.mem_of_getElem? (i := 2) (by decide +kernel))) (fun _ h9 => h9) rfl dX0_addSpan_87 ?_
            refine lv_iconst (v := 3) hx hb dX0_addSpan_90 (by decide) ?_
            refine lv_iload hx hb dX0_addSpan_91 (lv_at hl 4 rfl) ?_
            refine k_v (va_runV (As := [.int (nI n), .int (nI 3), .int tt]) (rest := []) ⟨hx, hb, hml, hown, hts⟩ (c_X0_setFact l D cI cB cO H.size h0 h1 h2 n P (upd (upd (upd F (n * 5 + 0) mm) (n * 5 + 1) ss) (n * 5 + 2) rr) n 3 tt (by first | assumption | omega)) (cwV 3 hts gX0_addSpan_X0_setFact rfl rfl rfl (by decide +kernel) ⟨Nat.le_of_ble_eq_true rfl, Nat.le_of_ble_eq_true rfl⟩) (preV_of hK hP hD hS hA hSt [0, 1] (by decide) rfl 0 (ci := 0) rfl rfl) rfl rfl hl.1 rfl (lv_room (Nat.le_of_ble_eq_true rfl)) dX0_addSpan_93 ⟨Nat.le_of_ble_eq_true rfl, Nat.le_of_ble_eq_true rfl⟩) hP hD hS hA [0, 1] [2] [1, 2, 0] [(h2, .inl (cI, 6, .inl G))] (fun (u_13 : Unit) => [(h0, .inr (0, [.int (nI n), .int P, .ref h1, .ref h2])), (h1, .inl (cI, 50, .inl (upd (upd (upd (upd F (n * 5 + 0) mm) (n * 5 + 1) ss) (n * 5 + 2) rr) (n * 5 + 3) tt))), (h2, .inl (cI, 6, .inl G))]) rfl rfl (by decide) (by decide) (by decide) (fun _ => rfl) (fun u_13 H locs q_13 hP hD hS => ?_)
            refine lv_aload_n hx hb dX0_addSpan_96 rfl (lv_at hl 0 rfl) ?_
            refine lv_aload_n hx hb dX0_addSpan_97 rfl (lv_at hl 0 rfl) ?_
            refine va_get (D := D) (ci := 0) (v := .int (nI n)) (C := RX0) (T := TX0) (N := 4) hx hb hts in_X0_addSpan_0 hown hK hP 0 rfl rfl 0 (by decide) (hts (.fieldLink RX0 9 "HoseSpans$Line" "spans" "I") (List.mem_of_getElem? (i := 2) (by decide +kernel))) (fun _ h9 => h9) rfl dX0_addSpan_98 ?_
            refine lv_iconst (v := 4) hx hb dX0_addSpan_101 (by decide) ?_
            refine lv_iconst (v := 0) hx hb dX0_addSpan_102 (by decide) ?_
            refine k_v (va_runV (As := [.int (nI n), .int (nI 4), .int 0]) (rest := []) ⟨hx, hb, hml, hown, hts⟩ (c_X0_setFact l D cI cB cO H.size h0 h1 h2 n P (upd (upd (upd (upd F (n * 5 + 0) mm) (n * 5 + 1) ss) (n * 5 + 2) rr) (n * 5 + 3) tt) n 4 0 (by first | assumption | omega)) (cwV 3 hts gX0_addSpan_X0_setFact rfl rfl rfl (by decide +kernel) ⟨Nat.le_of_ble_eq_true rfl, Nat.le_of_ble_eq_true rfl⟩) (preV_of hK hP hD hS hA hSt [0, 1] (by decide) rfl 0 (ci := 0) rfl rfl) rfl rfl hl.1 rfl (lv_room (Nat.le_of_ble_eq_true rfl)) dX0_addSpan_103 ⟨Nat.le_of_ble_eq_true rfl, Nat.le_of_ble_eq_true rfl⟩) hP hD hS hA [0, 1] [2] [1, 2, 0] [(h2, .inl (cI, 6, .inl G))] (fun (u_14 : Unit) => [(h0, .inr (0, [.int (nI n), .int P, .ref h1, .ref h2])), (h1, .inl (cI, 50, .inl (upd (upd (upd (upd (upd F (n * 5 + 0) mm) (n * 5 + 1) ss) (n * 5 + 2) rr) (n * 5 + 3) tt) (n * 5 + 4) 0))), (h2, .inl (cI, 6, .inl G))]) rfl rfl (by decide) (by decide) (by decide) (fun _ => rfl) (fun u_14 H locs q_14 hP hD hS => ?_)
            refine lv_aload_n hx hb dX0_addSpan_106 rfl (lv_at hl 0 rfl) ?_
            refine lv_dup hx hb dX0_addSpan_107 rfl ?_
            refine va_get (D := D) (ci := 0) (v := .int (nI n)) (C := RX0) (T := TX0) (N := 4) hx hb hts in_X0_addSpan_0 hown hK hP 0 rfl rfl 0 (by decide) (hts (.fieldLink RX0 9 "HoseSpans$Line" "spans" "I") (List.mem_of_getElem? (i := 2) (by decide +kernel))) (fun _ h9 => h9) rfl dX0_addSpan_108 ?_
            refine lv_iconst (v := 1) hx hb dX0_addSpan_111 (by decide) ?_
            refine lv_iadd hx hb dX0_addSpan_112 ?_
            refine e_n (y := nI (n + 1)) (nI_add n 1) ?_
            refine va_put (D := D) (ci := 0) (v := .int (nI (n + 1))) (ty := .int) (C := RX0) (T := TX0) (N := 4) hx hb hts in_X0_addSpan_0 tyX0 tyX0_ok nmX0 hown hK hP hD hS 0 rfl rfl 0 (by decide) (hts (.fieldLink RX0 9 "HoseSpans$Line" "spans" "I") (List.mem_of_getElem? (i := 2) (by decide +kernel))) (fun _ h9 => h9) rfl (by decide +kernel) rfl rfl (Nat.le_of_ble_eq_true rfl) dX0_addSpan_113 (fun H locs hP hD hS => ?_)
            have hP : va_P D vwCl [(h0, .inr (0, [.int (nI (n + 1)), .int P, .ref h1, .ref h2])), (h1, .inl (cI, 50, .inl (upd (upd (upd (upd (upd F (n * 5 + 0) mm) (n * 5 + 1) ss) (n * 5 + 2) rr) (n * 5 + 3) tt) (n * 5 + 4) 0))), (h2, .inl (cI, 6, .inl G))] H := hP
            have hD : va_D AM [(h0, .inr (0, [.int (nI (n + 1)), .int P, .ref h1, .ref h2])), (h1, .inl (cI, 50, .inl (upd (upd (upd (upd (upd F (n * 5 + 0) mm) (n * 5 + 1) ss) (n * 5 + 2) rr) (n * 5 + 3) tt) (n * 5 + 4) 0))), (h2, .inl (cI, 6, .inl G))] := hD
            refine lv_aload_n hx hb dX0_addSpan_116 rfl (lv_at hl 0 rfl) ?_
            refine va_get (D := D) (ci := 0) (v := .int (nI (n + 1))) (C := RX0) (T := TX0) (N := 4) hx hb hts in_X0_addSpan_0 hown hK hP 0 rfl rfl 0 (by decide) (hts (.fieldLink RX0 9 "HoseSpans$Line" "spans" "I") (List.mem_of_getElem? (i := 2) (by decide +kernel))) (fun _ h9 => h9) rfl dX0_addSpan_117 ?_
            refine lv_iconst (v := 1) hx hb dX0_addSpan_120 (by decide) ?_
            refine lv_isub hx hb dX0_addSpan_121 ?_
            refine e_n (y := nI (n + 1 - 1)) (pk_sub (a := n + 1) (b := 1) (by omega)) ?_
            refine e_i (u := (n + 1, P, setSp F n mm ss rr tt, G)) hx hb hr hlocks hP hD hS dX0_addSpan_122 ?_ ?_
            · rfl
            · exact (sSpan_ok (by assumption) (by assumption) (by assumption) (by assumption) (by assumption)).symm
          · have c_9 : ¬ n < 10 := fun h => c_9 ((nI_ltI (a := n) (b := 10) (by omega) (by decide)).mpr h)
            refine lv_ldc (v := -1000004) hx hb hown (hts (.constant RX0 39 (-1000004)) (List.mem_of_getElem? (i := 3) (by decide +kernel))) dX0_addSpan_52 ?_
            refine e_i (u := (n, P, F, G)) hx hb hr hlocks hP hD hS dX0_addSpan_54 ?_ ?_
            · rfl
            · exact (sSpan_full (by assumption) (by assumption) (by assumption) (by assumption) (by assumption)).symm
        · have c_8 := bI_0.mp c_8
          refine lv_ldc (v := -1000002) hx hb hown (hts (.constant RX0 38 (-1000002)) (List.mem_of_getElem? (i := 1) (by decide +kernel))) dX0_addSpan_40 ?_
          refine e_i (u := (n, P, F, G)) hx hb hr hlocks hP hD hS dX0_addSpan_42 ?_ ?_
          · rfl
          · first | exact (sSpan_f1 (by assumption)).symm | exact (sSpan_f2 (by assumption)).symm | exact (sSpan_f3 (by assumption)).symm | exact (sSpan_f4 (by assumption)).symm
theorem in_X0_cutLast_0 : ∀ w ∈ wsX00, w ∈ wsX0_cutLast := fun _ h => List.mem_cons_of_mem _ (List.mem_append_right _ h)
set_option maxHeartbeats 4000000 in
set_option maxRecDepth 100000 in
theorem c_X0_cutLast (l : Launch) (D : va_G) (cI cB cO : ClassId) (sz : Nat) (h0 h1 h2 n : Nat) (P : Int32) (F G : Nat → Int32)  (hn : n ≤ 10) : CI l yX0_cutLast wsX0_cutLast ({ frames := 0, cells := 0, slots := 0, locals := 0 } : Room) D (tyL cI cB cO) [.ref h0] [(h0, .inr (0, [.int (nI n), .int P, .ref h1, .ref h2])), (h1, .inl (cI, 50, .inl F)), (h2, .inl (cI, 6, .inl G))] sz (fun (ans : Int32) (u : Ln) => (ans, u) = sCut (n, P, F, G)) (fun (u : Ln) => [(h0, .inr (0, [.int (nI u.1), .int u.2.1, .ref h1, .ref h2])), (h1, .inl (cI, 50, .inl u.2.2.1)), (h2, .inl (cI, 6, .inl u.2.2.2))]) 0 0 := by
  refine ct_of (cc := cX0_cutLast) (maxL := 1) (ret := some .int) (own := RX0) (Qc := QI D (fun (ans : Int32) (u : Ln) => (ans, u) = sCut (n, P, F, G)) (fun (u : Ln) => [(h0, .inr (0, [.int (nI u.1), .int u.2.1, .ref h1, .ref h2])), (h1, .inl (cI, 50, .inl u.2.2.1)), (h2, .inl (cI, 6, .inl u.2.2.2))])) (by decide) rfl rfl (Nat.le_of_ble_eq_true rfl) ?_
  intro pM eM sM mM below meth cM AM ls H locs hx hb hr hts hown hlocks hml hin hK hP hD hS hA hSt hl
  have hl : lv_has ls 1 [(0, .ref h0)] := hl
  refine lv_aload_n hx hb dX0_cutLast_0 rfl (lv_at hl 0 rfl) ?_
  refine va_get (D := D) (ci := 0) (v := .int (nI n)) (C := RX0) (T := TX0) (N := 4) hx hb hts in_X0_cutLast_0 hown hK hP 0 rfl rfl 0 (by decide) (hts (.fieldLink RX0 9 "HoseSpans$Line" "spans" "I") (List.mem_of_getElem? (i := 1) (by decide +kernel))) (fun _ h9 => h9) rfl dX0_cutLast_1 ?_
  refine lv_if_ne (tgt := 10) hx hb dX0_cutLast_4 (by decide) (fun c_1 => ?_) (fun c_1 => ?_)
  · have c_1 : ¬ n = 0 := fun h => c_1 (by rw [h]; rfl)
    refine lv_aload_n hx hb dX0_cutLast_10 rfl (lv_at hl 0 rfl) ?_
    refine lv_dup hx hb dX0_cutLast_11 rfl ?_
    refine va_get (D := D) (ci := 0) (v := .int P) (C := RX0) (T := TX0) (N := 4) hx hb hts in_X0_cutLast_0 hown hK hP 0 rfl rfl 1 (by decide) (hts (.fieldLink RX0 15 "HoseSpans$Line" "pumps" "I") (List.mem_of_getElem? (i := 3) (by decide +kernel))) (fun _ h9 => h9) rfl dX0_cutLast_12 ?_
    refine lv_iconst (v := 1) hx hb dX0_cutLast_15 (by decide) ?_
    refine lv_aload_n hx hb dX0_cutLast_16 rfl (lv_at hl 0 rfl) ?_
    refine va_get (D := D) (ci := 0) (v := .int (nI n)) (C := RX0) (T := TX0) (N := 4) hx hb hts in_X0_cutLast_0 hown hK hP 0 rfl rfl 0 (by decide) (hts (.fieldLink RX0 9 "HoseSpans$Line" "spans" "I") (List.mem_of_getElem? (i := 1) (by decide +kernel))) (fun _ h9 => h9) rfl dX0_cutLast_17 ?_
    refine lv_ishl hx hb dX0_cutLast_20 ?_
    refine lv_iconst (v := -1) hx hb dX0_cutLast_21 (by decide) ?_
    refine lv_ixor hx hb dX0_cutLast_22 ?_
    refine lv_iand hx hb dX0_cutLast_23 ?_
    refine va_put (D := D) (ci := 0) (v := .int (P &&& (((1 : Int32) <<< ((nI n) &&& 31)) ^^^ (-1)))) (ty := .int) (C := RX0) (T := TX0) (N := 4) hx hb hts in_X0_cutLast_0 tyX0 tyX0_ok nmX0 hown hK hP hD hS 0 rfl rfl 1 (by decide) (hts (.fieldLink RX0 15 "HoseSpans$Line" "pumps" "I") (List.mem_of_getElem? (i := 3) (by decide +kernel))) (fun _ h9 => h9) rfl (by decide +kernel) rfl rfl (Nat.le_of_ble_eq_true rfl) dX0_cutLast_24 (fun H locs hP hD hS => ?_)
    have hP : va_P D vwCl [(h0, .inr (0, [.int (nI n), .int (P &&& (((1 : Int32) <<< ((nI n) &&& 31)) ^^^ (-1))), .ref h1, .ref h2])), (h1, .inl (cI, 50, .inl F)), (h2, .inl (cI, 6, .inl G))] H := hP
    have hD : va_D AM [(h0, .inr (0, [.int (nI n), .int (P &&& (((1 : Int32) <<< ((nI n) &&& 31)) ^^^ (-1))), .ref h1, .ref h2])), (h1, .inl (cI, 50, .inl F)), (h2, .inl (cI, 6, .inl G))] := hD
    refine lv_aload_n hx hb dX0_cutLast_27 rfl (lv_at hl 0 rfl) ?_
    refine lv_dup hx hb dX0_cutLast_28 rfl ?_
    refine va_get (D := D) (ci := 0) (v := .int (nI n)) (C := RX0) (T := TX0) (N := 4) hx hb hts in_X0_cutLast_0 hown hK hP 0 rfl rfl 0 (by decide) (hts (.fieldLink RX0 9 "HoseSpans$Line" "spans" "I") (List.mem_of_getElem? (i := 1) (by decide +kernel))) (fun _ h9 => h9) rfl dX0_cutLast_29 ?_
    refine lv_iconst (v := 1) hx hb dX0_cutLast_32 (by decide) ?_
    refine lv_isub hx hb dX0_cutLast_33 ?_
    refine e_n (y := nI (n - 1)) (pk_sub (a := n) (b := 1) (by omega)) ?_
    refine va_put (D := D) (ci := 0) (v := .int (nI (n - 1))) (ty := .int) (C := RX0) (T := TX0) (N := 4) hx hb hts in_X0_cutLast_0 tyX0 tyX0_ok nmX0 hown hK hP hD hS 0 rfl rfl 0 (by decide) (hts (.fieldLink RX0 9 "HoseSpans$Line" "spans" "I") (List.mem_of_getElem? (i := 1) (by decide +kernel))) (fun _ h9 => h9) rfl (by decide +kernel) rfl rfl (Nat.le_of_ble_eq_true rfl) dX0_cutLast_34 (fun H locs hP hD hS => ?_)
    have hP : va_P D vwCl [(h0, .inr (0, [.int (nI (n - 1)), .int (P &&& (((1 : Int32) <<< ((nI n) &&& 31)) ^^^ (-1))), .ref h1, .ref h2])), (h1, .inl (cI, 50, .inl F)), (h2, .inl (cI, 6, .inl G))] H := hP
    have hD : va_D AM [(h0, .inr (0, [.int (nI (n - 1)), .int (P &&& (((1 : Int32) <<< ((nI n) &&& 31)) ^^^ (-1))), .ref h1, .ref h2])), (h1, .inl (cI, 50, .inl F)), (h2, .inl (cI, 6, .inl G))] := hD
    refine lv_aload_n hx hb dX0_cutLast_37 rfl (lv_at hl 0 rfl) ?_
    refine va_get (D := D) (ci := 0) (v := .int (nI (n - 1))) (C := RX0) (T := TX0) (N := 4) hx hb hts in_X0_cutLast_0 hown hK hP 0 rfl rfl 0 (by decide) (hts (.fieldLink RX0 9 "HoseSpans$Line" "spans" "I") (List.mem_of_getElem? (i := 1) (by decide +kernel))) (fun _ h9 => h9) rfl dX0_cutLast_38 ?_
    refine e_i (u := (n - 1, P &&& (bitOf (nI n) ^^^ (-1)), F, G)) hx hb hr hlocks hP hD hS dX0_cutLast_41 ?_ ?_
    · rfl
    · exact (sCut_s (by assumption)).symm
  · have c_1 : n = 0 := (nI_eq (b := 0) (by omega) (by decide)).mp c_1
    refine lv_ldc (v := -1000003) hx hb hown (hts (.constant RX0 44 (-1000003)) (List.mem_of_getElem? (i := 2) (by decide +kernel))) dX0_cutLast_7 ?_
    refine e_i (u := (n, P, F, G)) hx hb hr hlocks hP hD hS dX0_cutLast_9 ?_ ?_
    · rfl
    · exact (sCut_0 (by assumption)).symm
theorem in_X0_changeSetting_0 : ∀ w ∈ wsX00, w ∈ wsX0_changeSetting := fun _ h => List.mem_cons_of_mem _ (List.mem_append_right _ h)
set_option maxHeartbeats 4000000 in
set_option maxRecDepth 100000 in
theorem c_X0_changeSetting (l : Launch) (D : va_G) (cI cB cO : ClassId) (sz : Nat) (h0 h1 h2 n : Nat) (P : Int32) (F G : Nat → Int32) (k v : Int32)  : CI l yX0_changeSetting wsX0_changeSetting ({ frames := 1, cells := 0, slots := 0, locals := 22 } : Room) D (tyL cI cB cO) [.ref h0, .int k, .int v] [(h0, .inr (0, [.int (nI n), .int P, .ref h1, .ref h2])), (h1, .inl (cI, 50, .inl F)), (h2, .inl (cI, 6, .inl G))] sz (fun (ans : Int32) (u : Ln) => (ans, u) = sSet (n, P, F, G) k v) (fun (u : Ln) => [(h0, .inr (0, [.int (nI u.1), .int u.2.1, .ref h1, .ref h2])), (h1, .inl (cI, 50, .inl u.2.2.1)), (h2, .inl (cI, 6, .inl u.2.2.2))]) 0 0 := by
  refine ct_of (cc := cX0_changeSetting) (maxL := 4) (ret := some .int) (own := RX0) (Qc := QI D (fun (ans : Int32) (u : Ln) => (ans, u) = sSet (n, P, F, G) k v) (fun (u : Ln) => [(h0, .inr (0, [.int (nI u.1), .int u.2.1, .ref h1, .ref h2])), (h1, .inl (cI, 50, .inl u.2.2.1)), (h2, .inl (cI, 6, .inl u.2.2.2))])) (by decide) rfl rfl (Nat.le_of_ble_eq_true rfl) ?_
  intro pM eM sM mM below meth cM AM ls H locs hx hb hr hts hown hlocks hml hin hK hP hD hS hA hSt hl
  have hl : lv_has ls 4 [(0, .ref h0), (1, .int k), (2, .int v)] := hl
  refine lv_iload_n hx hb dX0_changeSetting_0 rfl (lv_at hl 1 rfl) ?_
  refine lv_iconst (v := 0) hx hb dX0_changeSetting_1 (by decide) ?_
  refine lv_iconst (v := 5) hx hb dX0_changeSetting_2 (by decide) ?_
  refine k_i (va_runSN (As := [.int k, .int 0, .int 5]) (rest := []) ⟨hx, hb, hml, hown, hts⟩ (c_X4_within l D cI cB cO H.size k 0 5 ) ⟨va_cnB 3 hts gX0_changeSetting_X4_within_n34 rfl rfl rfl hSt.1.1 (hts (.initialized RX4) (List.mem_of_getElem? (i := 4) (by decide +kernel))) (by decide +kernel) ⟨Nat.le_of_ble_eq_true rfl, Nat.le_of_ble_eq_true rfl⟩, (hts (.static yX4_within) (List.mem_of_getElem? (i := 3) (by decide +kernel))), trivial⟩ (preS_of hK hP hD hS hA hSt [] (by decide) rfl) rfl rfl hl.1 rfl (lv_room (Nat.le_of_ble_eq_true rfl)) dX0_changeSetting_3 ⟨Nat.le_of_ble_eq_true rfl, Nat.le_of_ble_eq_true rfl⟩) hP hD hS hA [] [0, 1, 2] [0, 1, 2] [(h0, .inr (0, [.int (nI n), .int P, .ref h1, .ref h2])), (h1, .inl (cI, 50, .inl F)), (h2, .inl (cI, 6, .inl G))] (fun (u_1 : Unit) => [(h0, .inr (0, [.int (nI n), .int P, .ref h1, .ref h2])), (h1, .inl (cI, 50, .inl F)), (h2, .inl (cI, 6, .inl G))]) rfl rfl (by decide) (by decide) (by decide) (fun _ => rfl) (fun r_1 u_1 H locs q_1 hP hD hS => ?_)
  obtain rfl : r_1 = bI (inR k 0 5) := q_1
  refine lv_if_eq (tgt := 26) hx hb dX0_changeSetting_6 (by decide) (fun c_2 => ?_) (fun c_2 => ?_)
  · have c_2 := bI_0.mp c_2
    refine lv_ldc (v := -1000002) hx hb hown (hts (.constant RX0 38 (-1000002)) (List.mem_of_getElem? (i := 1) (by decide +kernel))) dX0_changeSetting_26 ?_
    refine e_i (u := (n, P, F, G)) hx hb hr hlocks hP hD hS dX0_changeSetting_28 ?_ ?_
    · rfl
    · first | exact (sSet_f1 (by assumption)).symm | exact (sSet_f2 (by assumption) (by assumption)).symm
  · have c_2 := bI_n0.mp c_2
    obtain ⟨j, hj, rfl⟩ := set_in c_2
    refine lv_iload_n hx hb dX0_changeSetting_9 rfl (lv_at hl 2 rfl) ?_
    obtain ⟨t_3, hZt_3, hTt_3⟩ := hSt.2.2.2.2.1
    refine va_getsN hx hb hZt_3 hS hown (va_Nw.use rfl hSt.1.2.2.2.2.2.2.1) (fun _ h9 => h9) dX0_changeSetting_10 ?_
    refine lv_iload_n hx hb dX0_changeSetting_13 rfl (lv_at hl 1 rfl) ?_
    refine va_ti hx hb hTt_3 hS (v := .int (kLow j)) (vp_in_nI (by omega) (by decide)) (congrArg (fun j => Value.int (kLow j)) (nI_clamp (by omega))) dX0_changeSetting_14 ?_
    obtain ⟨t_4, hZt_4, hTt_4⟩ := hSt.2.2.2.2.2
    refine va_getsN hx hb hZt_4 hS hown (va_Nw.use rfl hSt.1.2.2.2.2.2.2.2.1) (fun _ h9 => h9) dX0_changeSetting_15 ?_
    refine lv_iload_n hx hb dX0_changeSetting_18 rfl (lv_at hl 1 rfl) ?_
    refine va_ti hx hb hTt_4 hS (v := .int (kHigh j)) (vp_in_nI (by omega) (by decide)) (congrArg (fun j => Value.int (kHigh j)) (nI_clamp (by omega))) dX0_changeSetting_19 ?_
    refine k_i (va_runSN (As := [.int v, .int (kLow j), .int (kHigh j)]) (rest := []) ⟨hx, hb, hml, hown, hts⟩ (c_X4_within l D cI cB cO H.size v (kLow j) (kHigh j) ) ⟨va_cnB 3 hts gX0_changeSetting_X4_within_n34 rfl rfl rfl hSt.1.1 (hts (.initialized RX4) (List.mem_of_getElem? (i := 4) (by decide +kernel))) (by decide +kernel) ⟨Nat.le_of_ble_eq_true rfl, Nat.le_of_ble_eq_true rfl⟩, (hts (.static yX4_within) (List.mem_of_getElem? (i := 3) (by decide +kernel))), trivial⟩ (preS_of hK hP hD hS hA hSt [] (by decide) rfl) rfl rfl hl.1 rfl (lv_room (Nat.le_of_ble_eq_true rfl)) dX0_changeSetting_20 ⟨Nat.le_of_ble_eq_true rfl, Nat.le_of_ble_eq_true rfl⟩) hP hD hS hA [] [0, 1, 2] [0, 1, 2] [(h0, .inr (0, [.int (nI n), .int P, .ref h1, .ref h2])), (h1, .inl (cI, 50, .inl F)), (h2, .inl (cI, 6, .inl G))] (fun (u_5 : Unit) => [(h0, .inr (0, [.int (nI n), .int P, .ref h1, .ref h2])), (h1, .inl (cI, 50, .inl F)), (h2, .inl (cI, 6, .inl G))]) rfl rfl (by decide) (by decide) (by decide) (fun _ => rfl) (fun r_5 u_5 H locs q_5 hP hD hS => ?_)
    obtain rfl : r_5 = bI (inR v (kLow j) (kHigh j)) := q_5
    refine lv_if_ne (tgt := 29) hx hb dX0_changeSetting_23 (by decide) (fun c_6 => ?_) (fun c_6 => ?_)
    · have c_6 := bI_n0.mp c_6
      refine lv_aload_n hx hb dX0_changeSetting_29 rfl (lv_at hl 0 rfl) ?_
      refine va_get (D := D) (ci := 0) (v := .ref h2) (C := RX0) (T := TX0) (N := 4) hx hb hts in_X0_changeSetting_0 hown hK hP 0 rfl rfl 3 (by decide) (hts (.fieldLink RX0 22 "HoseSpans$Line" "settings" "[I") (List.mem_of_getElem? (i := 2) (by decide +kernel))) (fun _ h9 => h9) rfl dX0_changeSetting_30 ?_
      refine lv_iload_n hx hb dX0_changeSetting_33 rfl (lv_at hl 1 rfl) ?_
      refine va_iald hx hb hK hP 2 0 rfl rfl (vp_in_nI (by omega) (by decide)) dX0_changeSetting_34 ?_
      refine e_n (y := G j) (congrArg G (nI_clamp (by omega))) ?_
      refine lv_istore_n (lv' := [(3, .int (G j)), (0, .ref h0), (1, .int (nI j)), (2, .int v)]) hx hb dX0_changeSetting_35 rfl hl (by decide) rfl (fun ls hl => ?_)
      refine lv_aload_n hx hb dX0_changeSetting_36 rfl (lv_at hl 1 rfl) ?_
      refine va_get (D := D) (ci := 0) (v := .ref h2) (C := RX0) (T := TX0) (N := 4) hx hb hts in_X0_changeSetting_0 hown hK hP 0 rfl rfl 3 (by decide) (hts (.fieldLink RX0 22 "HoseSpans$Line" "settings" "[I") (List.mem_of_getElem? (i := 2) (by decide +kernel))) (fun _ h9 => h9) rfl dX0_changeSetting_37 ?_
      refine lv_iload_n hx hb dX0_changeSetting_40 rfl (lv_at hl 2 rfl) ?_
      refine lv_iload_n hx hb dX0_changeSetting_41 rfl (lv_at hl 3 rfl) ?_
      refine va_iast hx hb hK hP hD hS 2 0 rfl rfl (vp_in_nI (by omega) (by decide)) dX0_changeSetting_42 (fun H locs hP hD hS => ?_)
      rw [show Int32.toNatClampNeg (nI j) = j from (nI_clamp (by omega))] at hP hD
      have hP : va_P D vwCl [(h0, .inr (0, [.int (nI n), .int P, .ref h1, .ref h2])), (h1, .inl (cI, 50, .inl F)), (h2, .inl (cI, 6, .inl (upd G j v)))] H := hP
      have hD : va_D AM [(h0, .inr (0, [.int (nI n), .int P, .ref h1, .ref h2])), (h1, .inl (cI, 50, .inl F)), (h2, .inl (cI, 6, .inl (upd G j v)))] := hD
      refine lv_iload_n hx hb dX0_changeSetting_43 rfl (lv_at hl 0 rfl) ?_
      refine e_i (u := (n, P, F, upd G j v)) hx hb hr hlocks hP hD hS dX0_changeSetting_44 ?_ ?_
      · rfl
      · exact (sSet_ok (by assumption) (by assumption) (by assumption)).symm
    · have c_6 := bI_0.mp c_6
      refine lv_ldc (v := -1000002) hx hb hown (hts (.constant RX0 38 (-1000002)) (List.mem_of_getElem? (i := 1) (by decide +kernel))) dX0_changeSetting_26 ?_
      refine e_i (u := (n, P, F, G)) hx hb hr hlocks hP hD hS dX0_changeSetting_28 ?_ ?_
      · rfl
      · first | exact (sSet_f1 (by assumption)).symm | exact (sSet_f2 (by assumption) (by assumption)).symm
set_option maxHeartbeats 4000000 in
set_option maxRecDepth 100000 in
theorem c_J6_bitCount_0f7a4 (l : Launch) (D : va_G) (cI cB cO : ClassId) (sz : Nat) (x : Int32) (hp : okPumps x) : CI l yJ6_bitCount_0f7a4 wsJ6_bitCount_0f7a4 ({ frames := 0, cells := 0, slots := 0, locals := 0 } : Room) D (tyL cI cB cO) [.int x] [] sz (fun (r : Int32) (_ : Unit) => r = bcI x) (fun (u : Unit) => []) 0 0 := by
  refine ct_of (cc := cJ6_bitCount_0f7a4) (maxL := 1) (ret := some .int) (own := RJ6) (Qc := QI D (fun (r : Int32) (_ : Unit) => r = bcI x) (fun (u : Unit) => [])) (by decide) rfl rfl (Nat.le_of_ble_eq_true rfl) ?_
  intro pM eM sM mM below meth cM AM ls H locs hx hb hr hts hown hlocks hml hin hK hP hD hS hA hSt hl
  have hl : lv_has ls 1 [(0, .int x)] := hl
  refine lv_iload_n hx hb dJ6_bitCount_0f7a4_0 rfl (lv_at hl 0 rfl) ?_
  refine lv_iload_n hx hb dJ6_bitCount_0f7a4_1 rfl (lv_at hl 0 rfl) ?_
  refine lv_iconst (v := 1) hx hb dJ6_bitCount_0f7a4_2 (by decide) ?_
  refine lv_iushr (v := (Int32.toUInt32 x >>> (Int32.toUInt32 1 &&& Int32.toUInt32 31)).toInt32) hx hb dJ6_bitCount_0f7a4_3 rfl ?_
  refine lv_ldcw (v := 1431655765) hx hb hown (hts (.constant RJ6 265 1431655765) (List.mem_of_getElem? (i := 1) (by decide +kernel))) dJ6_bitCount_0f7a4_4 ?_
  refine lv_iand hx hb dJ6_bitCount_0f7a4_7 ?_
  refine lv_isub hx hb dJ6_bitCount_0f7a4_8 ?_
  refine lv_istore_n (lv' := [(0, .int (x - (((Int32.toUInt32 x >>> (Int32.toUInt32 1 &&& Int32.toUInt32 31)).toInt32) &&& 1431655765)))]) hx hb dJ6_bitCount_0f7a4_9 rfl hl (by decide) rfl (fun ls hl => ?_)
  refine lv_iload_n hx hb dJ6_bitCount_0f7a4_10 rfl (lv_at hl 0 rfl) ?_
  refine lv_ldcw (v := 858993459) hx hb hown (hts (.constant RJ6 266 858993459) (List.mem_of_getElem? (i := 2) (by decide +kernel))) dJ6_bitCount_0f7a4_11 ?_
  refine lv_iand hx hb dJ6_bitCount_0f7a4_14 ?_
  refine lv_iload_n hx hb dJ6_bitCount_0f7a4_15 rfl (lv_at hl 0 rfl) ?_
  refine lv_iconst (v := 2) hx hb dJ6_bitCount_0f7a4_16 (by decide) ?_
  refine lv_iushr (v := (Int32.toUInt32 (x - (((Int32.toUInt32 x >>> (Int32.toUInt32 1 &&& Int32.toUInt32 31)).toInt32) &&& 1431655765)) >>> (Int32.toUInt32 2 &&& Int32.toUInt32 31)).toInt32) hx hb dJ6_bitCount_0f7a4_17 rfl ?_
  refine lv_ldcw (v := 858993459) hx hb hown (hts (.constant RJ6 266 858993459) (List.mem_of_getElem? (i := 2) (by decide +kernel))) dJ6_bitCount_0f7a4_18 ?_
  refine lv_iand hx hb dJ6_bitCount_0f7a4_21 ?_
  refine lv_iadd hx hb dJ6_bitCount_0f7a4_22 ?_
  refine lv_istore_n (lv' := [(0, .int (((x - (((Int32.toUInt32 x >>> (Int32.toUInt32 1 &&& Int32.toUInt32 31)).toInt32) &&& 1431655765)) &&& 858993459) + (((Int32.toUInt32 (x - (((Int32.toUInt32 x >>> (Int32.toUInt32 1 &&& Int32.toUInt32 31)).toInt32) &&& 1431655765)) >>> (Int32.toUInt32 2 &&& Int32.toUInt32 31)).toInt32) &&& 858993459)))]) hx hb dJ6_bitCount_0f7a4_23 rfl hl (by decide) rfl (fun ls hl => ?_)
  refine lv_iload_n hx hb dJ6_bitCount_0f7a4_24 rfl (lv_at hl 0 rfl) ?_
  refine lv_iload_n hx hb dJ6_bitCount_0f7a4_25 rfl (lv_at hl 0 rfl) ?_
  refine lv_iconst (v := 4) hx hb dJ6_bitCount_0f7a4_26 (by decide) ?_
  refine lv_iushr (v := (Int32.toUInt32 (((x - (((Int32.toUInt32 x >>> (Int32.toUInt32 1 &&& Int32.toUInt32 31)).toInt32) &&& 1431655765)) &&& 858993459) + (((Int32.toUInt32 (x - (((Int32.toUInt32 x >>> (Int32.toUInt32 1 &&& Int32.toUInt32 31)).toInt32) &&& 1431655765)) >>> (Int32.toUInt32 2 &&& Int32.toUInt32 31)).toInt32) &&& 858993459)) >>> (Int32.toUInt32 4 &&& Int32.toUInt32 31)).toInt32) hx hb dJ6_bitCount_0f7a4_27 rfl ?_
  refine lv_iadd hx hb dJ6_bitCount_0f7a4_28 ?_
  refine lv_ldcw (v := 252645135) hx hb hown (hts (.constant RJ6 267 252645135) (List.mem_of_getElem? (i := 3) (by decide +kernel))) dJ6_bitCount_0f7a4_29 ?_
  refine lv_iand hx hb dJ6_bitCount_0f7a4_32 ?_
  refine lv_istore_n (lv' := [(0, .int (((((x - (((Int32.toUInt32 x >>> (Int32.toUInt32 1 &&& Int32.toUInt32 31)).toInt32) &&& 1431655765)) &&& 858993459) + (((Int32.toUInt32 (x - (((Int32.toUInt32 x >>> (Int32.toUInt32 1 &&& Int32.toUInt32 31)).toInt32) &&& 1431655765)) >>> (Int32.toUInt32 2 &&& Int32.toUInt32 31)).toInt32) &&& 858993459)) + ((Int32.toUInt32 (((x - (((Int32.toUInt32 x >>> (Int32.toUInt32 1 &&& Int32.toUInt32 31)).toInt32) &&& 1431655765)) &&& 858993459) + (((Int32.toUInt32 (x - (((Int32.toUInt32 x >>> (Int32.toUInt32 1 &&& Int32.toUInt32 31)).toInt32) &&& 1431655765)) >>> (Int32.toUInt32 2 &&& Int32.toUInt32 31)).toInt32) &&& 858993459)) >>> (Int32.toUInt32 4 &&& Int32.toUInt32 31)).toInt32)) &&& 252645135))]) hx hb dJ6_bitCount_0f7a4_33 rfl hl (by decide) rfl (fun ls hl => ?_)
  refine lv_iload_n hx hb dJ6_bitCount_0f7a4_34 rfl (lv_at hl 0 rfl) ?_
  refine lv_iload_n hx hb dJ6_bitCount_0f7a4_35 rfl (lv_at hl 0 rfl) ?_
  refine lv_bipush (v := 8) hx hb dJ6_bitCount_0f7a4_36 (by decide) ?_
  refine lv_iushr (v := (Int32.toUInt32 (((((x - (((Int32.toUInt32 x >>> (Int32.toUInt32 1 &&& Int32.toUInt32 31)).toInt32) &&& 1431655765)) &&& 858993459) + (((Int32.toUInt32 (x - (((Int32.toUInt32 x >>> (Int32.toUInt32 1 &&& Int32.toUInt32 31)).toInt32) &&& 1431655765)) >>> (Int32.toUInt32 2 &&& Int32.toUInt32 31)).toInt32) &&& 858993459)) + ((Int32.toUInt32 (((x - (((Int32.toUInt32 x >>> (Int32.toUInt32 1 &&& Int32.toUInt32 31)).toInt32) &&& 1431655765)) &&& 858993459) + (((Int32.toUInt32 (x - (((Int32.toUInt32 x >>> (Int32.toUInt32 1 &&& Int32.toUInt32 31)).toInt32) &&& 1431655765)) >>> (Int32.toUInt32 2 &&& Int32.toUInt32 31)).toInt32) &&& 858993459)) >>> (Int32.toUInt32 4 &&& Int32.toUInt32 31)).toInt32)) &&& 252645135) >>> (Int32.toUInt32 8 &&& Int32.toUInt32 31)).toInt32) hx hb dJ6_bitCount_0f7a4_38 rfl ?_
  refine lv_iadd hx hb dJ6_bitCount_0f7a4_39 ?_
  refine lv_istore_n (lv' := [(0, .int ((((((x - (((Int32.toUInt32 x >>> (Int32.toUInt32 1 &&& Int32.toUInt32 31)).toInt32) &&& 1431655765)) &&& 858993459) + (((Int32.toUInt32 (x - (((Int32.toUInt32 x >>> (Int32.toUInt32 1 &&& Int32.toUInt32 31)).toInt32) &&& 1431655765)) >>> (Int32.toUInt32 2 &&& Int32.toUInt32 31)).toInt32) &&& 858993459)) + ((Int32.toUInt32 (((x - (((Int32.toUInt32 x >>> (Int32.toUInt32 1 &&& Int32.toUInt32 31)).toInt32) &&& 1431655765)) &&& 858993459) + (((Int32.toUInt32 (x - (((Int32.toUInt32 x >>> (Int32.toUInt32 1 &&& Int32.toUInt32 31)).toInt32) &&& 1431655765)) >>> (Int32.toUInt32 2 &&& Int32.toUInt32 31)).toInt32) &&& 858993459)) >>> (Int32.toUInt32 4 &&& Int32.toUInt32 31)).toInt32)) &&& 252645135) + ((Int32.toUInt32 (((((x - (((Int32.toUInt32 x >>> (Int32.toUInt32 1 &&& Int32.toUInt32 31)).toInt32) &&& 1431655765)) &&& 858993459) + (((Int32.toUInt32 (x - (((Int32.toUInt32 x >>> (Int32.toUInt32 1 &&& Int32.toUInt32 31)).toInt32) &&& 1431655765)) >>> (Int32.toUInt32 2 &&& Int32.toUInt32 31)).toInt32) &&& 858993459)) + ((Int32.toUInt32 (((x - (((Int32.toUInt32 x >>> (Int32.toUInt32 1 &&& Int32.toUInt32 31)).toInt32) &&& 1431655765)) &&& 858993459) + (((Int32.toUInt32 (x - (((Int32.toUInt32 x >>> (Int32.toUInt32 1 &&& Int32.toUInt32 31)).toInt32) &&& 1431655765)) >>> (Int32.toUInt32 2 &&& Int32.toUInt32 31)).toInt32) &&& 858993459)) >>> (Int32.toUInt32 4 &&& Int32.toUInt32 31)).toInt32)) &&& 252645135) >>> (Int32.toUInt32 8 &&& Int32.toUInt32 31)).toInt32)))]) hx hb dJ6_bitCount_0f7a4_40 rfl hl (by decide) rfl (fun ls hl => ?_)
  refine lv_iload_n hx hb dJ6_bitCount_0f7a4_41 rfl (lv_at hl 0 rfl) ?_
  refine lv_iload_n hx hb dJ6_bitCount_0f7a4_42 rfl (lv_at hl 0 rfl) ?_
  refine lv_bipush (v := 16) hx hb dJ6_bitCount_0f7a4_43 (by decide) ?_
  refine lv_iushr (v := (Int32.toUInt32 ((((((x - (((Int32.toUInt32 x >>> (Int32.toUInt32 1 &&& Int32.toUInt32 31)).toInt32) &&& 1431655765)) &&& 858993459) + (((Int32.toUInt32 (x - (((Int32.toUInt32 x >>> (Int32.toUInt32 1 &&& Int32.toUInt32 31)).toInt32) &&& 1431655765)) >>> (Int32.toUInt32 2 &&& Int32.toUInt32 31)).toInt32) &&& 858993459)) + ((Int32.toUInt32 (((x - (((Int32.toUInt32 x >>> (Int32.toUInt32 1 &&& Int32.toUInt32 31)).toInt32) &&& 1431655765)) &&& 858993459) + (((Int32.toUInt32 (x - (((Int32.toUInt32 x >>> (Int32.toUInt32 1 &&& Int32.toUInt32 31)).toInt32) &&& 1431655765)) >>> (Int32.toUInt32 2 &&& Int32.toUInt32 31)).toInt32) &&& 858993459)) >>> (Int32.toUInt32 4 &&& Int32.toUInt32 31)).toInt32)) &&& 252645135) + ((Int32.toUInt32 (((((x - (((Int32.toUInt32 x >>> (Int32.toUInt32 1 &&& Int32.toUInt32 31)).toInt32) &&& 1431655765)) &&& 858993459) + (((Int32.toUInt32 (x - (((Int32.toUInt32 x >>> (Int32.toUInt32 1 &&& Int32.toUInt32 31)).toInt32) &&& 1431655765)) >>> (Int32.toUInt32 2 &&& Int32.toUInt32 31)).toInt32) &&& 858993459)) + ((Int32.toUInt32 (((x - (((Int32.toUInt32 x >>> (Int32.toUInt32 1 &&& Int32.toUInt32 31)).toInt32) &&& 1431655765)) &&& 858993459) + (((Int32.toUInt32 (x - (((Int32.toUInt32 x >>> (Int32.toUInt32 1 &&& Int32.toUInt32 31)).toInt32) &&& 1431655765)) >>> (Int32.toUInt32 2 &&& Int32.toUInt32 31)).toInt32) &&& 858993459)) >>> (Int32.toUInt32 4 &&& Int32.toUInt32 31)).toInt32)) &&& 252645135) >>> (Int32.toUInt32 8 &&& Int32.toUInt32 31)).toInt32)) >>> (Int32.toUInt32 16 &&& Int32.toUInt32 31)).toInt32) hx hb dJ6_bitCount_0f7a4_45 rfl ?_
  refine lv_iadd hx hb dJ6_bitCount_0f7a4_46 ?_
  refine lv_istore_n (lv' := [(0, .int (((((((x - (((Int32.toUInt32 x >>> (Int32.toUInt32 1 &&& Int32.toUInt32 31)).toInt32) &&& 1431655765)) &&& 858993459) + (((Int32.toUInt32 (x - (((Int32.toUInt32 x >>> (Int32.toUInt32 1 &&& Int32.toUInt32 31)).toInt32) &&& 1431655765)) >>> (Int32.toUInt32 2 &&& Int32.toUInt32 31)).toInt32) &&& 858993459)) + ((Int32.toUInt32 (((x - (((Int32.toUInt32 x >>> (Int32.toUInt32 1 &&& Int32.toUInt32 31)).toInt32) &&& 1431655765)) &&& 858993459) + (((Int32.toUInt32 (x - (((Int32.toUInt32 x >>> (Int32.toUInt32 1 &&& Int32.toUInt32 31)).toInt32) &&& 1431655765)) >>> (Int32.toUInt32 2 &&& Int32.toUInt32 31)).toInt32) &&& 858993459)) >>> (Int32.toUInt32 4 &&& Int32.toUInt32 31)).toInt32)) &&& 252645135) + ((Int32.toUInt32 (((((x - (((Int32.toUInt32 x >>> (Int32.toUInt32 1 &&& Int32.toUInt32 31)).toInt32) &&& 1431655765)) &&& 858993459) + (((Int32.toUInt32 (x - (((Int32.toUInt32 x >>> (Int32.toUInt32 1 &&& Int32.toUInt32 31)).toInt32) &&& 1431655765)) >>> (Int32.toUInt32 2 &&& Int32.toUInt32 31)).toInt32) &&& 858993459)) + ((Int32.toUInt32 (((x - (((Int32.toUInt32 x >>> (Int32.toUInt32 1 &&& Int32.toUInt32 31)).toInt32) &&& 1431655765)) &&& 858993459) + (((Int32.toUInt32 (x - (((Int32.toUInt32 x >>> (Int32.toUInt32 1 &&& Int32.toUInt32 31)).toInt32) &&& 1431655765)) >>> (Int32.toUInt32 2 &&& Int32.toUInt32 31)).toInt32) &&& 858993459)) >>> (Int32.toUInt32 4 &&& Int32.toUInt32 31)).toInt32)) &&& 252645135) >>> (Int32.toUInt32 8 &&& Int32.toUInt32 31)).toInt32)) + ((Int32.toUInt32 ((((((x - (((Int32.toUInt32 x >>> (Int32.toUInt32 1 &&& Int32.toUInt32 31)).toInt32) &&& 1431655765)) &&& 858993459) + (((Int32.toUInt32 (x - (((Int32.toUInt32 x >>> (Int32.toUInt32 1 &&& Int32.toUInt32 31)).toInt32) &&& 1431655765)) >>> (Int32.toUInt32 2 &&& Int32.toUInt32 31)).toInt32) &&& 858993459)) + ((Int32.toUInt32 (((x - (((Int32.toUInt32 x >>> (Int32.toUInt32 1 &&& Int32.toUInt32 31)).toInt32) &&& 1431655765)) &&& 858993459) + (((Int32.toUInt32 (x - (((Int32.toUInt32 x >>> (Int32.toUInt32 1 &&& Int32.toUInt32 31)).toInt32) &&& 1431655765)) >>> (Int32.toUInt32 2 &&& Int32.toUInt32 31)).toInt32) &&& 858993459)) >>> (Int32.toUInt32 4 &&& Int32.toUInt32 31)).toInt32)) &&& 252645135) + ((Int32.toUInt32 (((((x - (((Int32.toUInt32 x >>> (Int32.toUInt32 1 &&& Int32.toUInt32 31)).toInt32) &&& 1431655765)) &&& 858993459) + (((Int32.toUInt32 (x - (((Int32.toUInt32 x >>> (Int32.toUInt32 1 &&& Int32.toUInt32 31)).toInt32) &&& 1431655765)) >>> (Int32.toUInt32 2 &&& Int32.toUInt32 31)).toInt32) &&& 858993459)) + ((Int32.toUInt32 (((x - (((Int32.toUInt32 x >>> (Int32.toUInt32 1 &&& Int32.toUInt32 31)).toInt32) &&& 1431655765)) &&& 858993459) + (((Int32.toUInt32 (x - (((Int32.toUInt32 x >>> (Int32.toUInt32 1 &&& Int32.toUInt32 31)).toInt32) &&& 1431655765)) >>> (Int32.toUInt32 2 &&& Int32.toUInt32 31)).toInt32) &&& 858993459)) >>> (Int32.toUInt32 4 &&& Int32.toUInt32 31)).toInt32)) &&& 252645135) >>> (Int32.toUInt32 8 &&& Int32.toUInt32 31)).toInt32)) >>> (Int32.toUInt32 16 &&& Int32.toUInt32 31)).toInt32)))]) hx hb dJ6_bitCount_0f7a4_47 rfl hl (by decide) rfl (fun ls hl => ?_)
  refine lv_iload_n hx hb dJ6_bitCount_0f7a4_48 rfl (lv_at hl 0 rfl) ?_
  refine lv_bipush (v := 63) hx hb dJ6_bitCount_0f7a4_49 (by decide) ?_
  refine lv_iand hx hb dJ6_bitCount_0f7a4_51 ?_
  refine e_i (u := ()) hx hb hr hlocks hP hD hS dJ6_bitCount_0f7a4_52 ?_ ?_
  · rfl
  · exact bc_eq hp
theorem in_X0_turnPump_0 : ∀ w ∈ wsX00, w ∈ wsX0_turnPump := fun _ h => List.mem_cons_of_mem _ (List.mem_append_right _ h)
set_option maxHeartbeats 4000000 in
set_option maxRecDepth 100000 in
theorem c_X0_turnPump (l : Launch) (D : va_G) (cI cB cO : ClassId) (sz : Nat) (h0 h1 h2 n : Nat) (P : Int32) (F G : Nat → Int32) (i : Int32) (hn : n ≤ 10) (hp : okPumps P) : CI l yX0_turnPump wsX0_turnPump ({ frames := 2, cells := 0, slots := 0, locals := 43 } : Room) D (tyL cI cB cO) [.ref h0, .int i] [(h0, .inr (0, [.int (nI n), .int P, .ref h1, .ref h2])), (h1, .inl (cI, 50, .inl F)), (h2, .inl (cI, 6, .inl G))] sz (fun (ans : Int32) (u : Ln) => (ans, u) = sPump (n, P, F, G) i) (fun (u : Ln) => [(h0, .inr (0, [.int (nI u.1), .int u.2.1, .ref h1, .ref h2])), (h1, .inl (cI, 50, .inl u.2.2.1)), (h2, .inl (cI, 6, .inl u.2.2.2))]) 0 0 := by
  refine ct_of (cc := cX0_turnPump) (maxL := 2) (ret := some .int) (own := RX0) (Qc := QI D (fun (ans : Int32) (u : Ln) => (ans, u) = sPump (n, P, F, G) i) (fun (u : Ln) => [(h0, .inr (0, [.int (nI u.1), .int u.2.1, .ref h1, .ref h2])), (h1, .inl (cI, 50, .inl u.2.2.1)), (h2, .inl (cI, 6, .inl u.2.2.2))])) (by decide) rfl rfl (Nat.le_of_ble_eq_true rfl) ?_
  intro pM eM sM mM below meth cM AM ls H locs hx hb hr hts hown hlocks hml hin hK hP hD hS hA hSt hl
  have hl : lv_has ls 2 [(0, .ref h0), (1, .int i)] := hl
  refine lv_aload_n hx hb dX0_turnPump_0 rfl (lv_at hl 0 rfl) ?_
  refine lv_iload_n hx hb dX0_turnPump_1 rfl (lv_at hl 1 rfl) ?_
  refine k_i (va_runV (As := [.int i]) (rest := []) ⟨hx, hb, hml, hown, hts⟩ (c_X0_hasNode l D cI cB cO H.size h0 h1 h2 n P i ) (cwV 1 hts gX0_turnPump_X0_hasNode rfl rfl rfl (by decide +kernel) ⟨Nat.le_of_ble_eq_true rfl, Nat.le_of_ble_eq_true rfl⟩) (preV_of hK hP hD hS hA hSt [0] (by decide) rfl 0 (ci := 0) rfl rfl) rfl rfl hl.1 rfl (lv_room (Nat.le_of_ble_eq_true rfl)) dX0_turnPump_2 ⟨Nat.le_of_ble_eq_true rfl, Nat.le_of_ble_eq_true rfl⟩) hP hD hS hA [0] [1, 2] [2, 0, 1] [(h1, .inl (cI, 50, .inl F)), (h2, .inl (cI, 6, .inl G))] (fun (u_1 : Unit) => [(h0, .inr (0, [.int (nI n), .int P, .ref h1, .ref h2])), (h1, .inl (cI, 50, .inl F)), (h2, .inl (cI, 6, .inl G))]) rfl rfl (by decide) (by decide) (by decide) (fun _ => rfl) (fun r_1 u_1 H locs q_1 hP hD hS => ?_)
  obtain rfl : r_1 = bI (inR i 0 (nI n)) := q_1
  refine lv_if_ne (tgt := 11) hx hb dX0_turnPump_5 (by decide) (fun c_2 => ?_) (fun c_2 => ?_)
  · have c_2 := bI_n0.mp c_2
    obtain ⟨j, hj, rfl⟩ := node_in hn c_2
    refine lv_aload_n hx hb dX0_turnPump_11 rfl (lv_at hl 0 rfl) ?_
    refine lv_dup hx hb dX0_turnPump_12 rfl ?_
    refine va_get (D := D) (ci := 0) (v := .int P) (C := RX0) (T := TX0) (N := 4) hx hb hts in_X0_turnPump_0 hown hK hP 0 rfl rfl 1 (by decide) (hts (.fieldLink RX0 15 "HoseSpans$Line" "pumps" "I") (List.mem_of_getElem? (i := 2) (by decide +kernel))) (fun _ h9 => h9) rfl dX0_turnPump_13 ?_
    refine lv_iconst (v := 1) hx hb dX0_turnPump_16 (by decide) ?_
    refine lv_iload_n hx hb dX0_turnPump_17 rfl (lv_at hl 1 rfl) ?_
    refine lv_ishl hx hb dX0_turnPump_18 ?_
    refine lv_ixor hx hb dX0_turnPump_19 ?_
    refine va_put (D := D) (ci := 0) (v := .int (P ^^^ ((1 : Int32) <<< ((nI j) &&& 31)))) (ty := .int) (C := RX0) (T := TX0) (N := 4) hx hb hts in_X0_turnPump_0 tyX0 tyX0_ok nmX0 hown hK hP hD hS 0 rfl rfl 1 (by decide) (hts (.fieldLink RX0 15 "HoseSpans$Line" "pumps" "I") (List.mem_of_getElem? (i := 2) (by decide +kernel))) (fun _ h9 => h9) rfl (by decide +kernel) rfl rfl (Nat.le_of_ble_eq_true rfl) dX0_turnPump_20 (fun H locs hP hD hS => ?_)
    have hP : va_P D vwCl [(h0, .inr (0, [.int (nI n), .int (P ^^^ ((1 : Int32) <<< ((nI j) &&& 31))), .ref h1, .ref h2])), (h1, .inl (cI, 50, .inl F)), (h2, .inl (cI, 6, .inl G))] H := hP
    have hD : va_D AM [(h0, .inr (0, [.int (nI n), .int (P ^^^ ((1 : Int32) <<< ((nI j) &&& 31))), .ref h1, .ref h2])), (h1, .inl (cI, 50, .inl F)), (h2, .inl (cI, 6, .inl G))] := hD
    refine lv_aload_n hx hb dX0_turnPump_23 rfl (lv_at hl 0 rfl) ?_
    refine va_get (D := D) (ci := 0) (v := .int (P ^^^ ((1 : Int32) <<< ((nI j) &&& 31)))) (C := RX0) (T := TX0) (N := 4) hx hb hts in_X0_turnPump_0 hown hK hP 0 rfl rfl 1 (by decide) (hts (.fieldLink RX0 15 "HoseSpans$Line" "pumps" "I") (List.mem_of_getElem? (i := 2) (by decide +kernel))) (fun _ h9 => h9) rfl dX0_turnPump_24 ?_
    refine k_i (va_runS (As := [.int (P ^^^ ((1 : Int32) <<< ((nI j) &&& 31)))]) (rest := []) ⟨hx, hb, hml, hown, hts⟩ (c_J6_bitCount_0f7a4 l D cI cB cO H.size (P ^^^ ((1 : Int32) <<< ((nI j) &&& 31))) (by exact hp.xor (by omega))) (va_cwS 1 hts gX0_turnPump_J6_bitCount_0f7a4 rfl rfl rfl (by decide +kernel) ⟨Nat.le_of_ble_eq_true rfl, Nat.le_of_ble_eq_true rfl⟩) (preS_of hK hP hD hS hA hSt [] (by decide) rfl) rfl rfl hl.1 rfl (lv_room (Nat.le_of_ble_eq_true rfl)) dX0_turnPump_27 ⟨Nat.le_of_ble_eq_true rfl, Nat.le_of_ble_eq_true rfl⟩) hP hD hS hA [] [0, 1, 2] [0, 1, 2] [(h0, .inr (0, [.int (nI n), .int (P ^^^ ((1 : Int32) <<< ((nI j) &&& 31))), .ref h1, .ref h2])), (h1, .inl (cI, 50, .inl F)), (h2, .inl (cI, 6, .inl G))] (fun (u_3 : Unit) => [(h0, .inr (0, [.int (nI n), .int (P ^^^ ((1 : Int32) <<< ((nI j) &&& 31))), .ref h1, .ref h2])), (h1, .inl (cI, 50, .inl F)), (h2, .inl (cI, 6, .inl G))]) rfl rfl (by decide) (by decide) (by decide) (fun _ => rfl) (fun r_3 u_3 H locs q_3 hP hD hS => ?_)
    obtain rfl : r_3 = bcI (P ^^^ ((1 : Int32) <<< ((nI j) &&& 31))) := q_3
    refine e_i (u := (n, P ^^^ bitOf (nI j), F, G)) hx hb hr hlocks hP hD hS dX0_turnPump_30 ?_ ?_
    · rfl
    · exact (sPump_ok (by assumption)).symm
  · have c_2 := bI_0.mp c_2
    refine lv_ldc (v := -1000002) hx hb hown (hts (.constant RX0 38 (-1000002)) (List.mem_of_getElem? (i := 1) (by decide +kernel))) dX0_turnPump_8 ?_
    refine e_i (u := (n, P, F, G)) hx hb hr hlocks hP hD hS dX0_turnPump_10 ?_ ?_
    · rfl
    · exact (sPump_f (by assumption)).symm
set_option maxHeartbeats 4000000 in
set_option maxRecDepth 100000 in
theorem c_X0_burstSpan (l : Launch) (D : va_G) (cI cB cO : ClassId) (sz : Nat) (h0 h1 h2 n : Nat) (P : Int32) (F G : Nat → Int32) (i : Int32) (hn : n ≤ 10) : CI l yX0_burstSpan wsX0_burstSpan ({ frames := 2, cells := 0, slots := 0, locals := 43 } : Room) D (tyL cI cB cO) [.ref h0, .int i] [(h0, .inr (0, [.int (nI n), .int P, .ref h1, .ref h2])), (h1, .inl (cI, 50, .inl F)), (h2, .inl (cI, 6, .inl G))] sz (fun (ans : Int32) (u : Ln) => (ans, u) = sBurst (n, P, F, G) i) (fun (u : Ln) => [(h0, .inr (0, [.int (nI u.1), .int u.2.1, .ref h1, .ref h2])), (h1, .inl (cI, 50, .inl u.2.2.1)), (h2, .inl (cI, 6, .inl u.2.2.2))]) 0 0 := by
  refine ct_of (cc := cX0_burstSpan) (maxL := 3) (ret := some .int) (own := RX0) (Qc := QI D (fun (ans : Int32) (u : Ln) => (ans, u) = sBurst (n, P, F, G) i) (fun (u : Ln) => [(h0, .inr (0, [.int (nI u.1), .int u.2.1, .ref h1, .ref h2])), (h1, .inl (cI, 50, .inl u.2.2.1)), (h2, .inl (cI, 6, .inl u.2.2.2))])) (by decide) rfl rfl (Nat.le_of_ble_eq_true rfl) ?_
  intro pM eM sM mM below meth cM AM ls H locs hx hb hr hts hown hlocks hml hin hK hP hD hS hA hSt hl
  have hl : lv_has ls 3 [(0, .ref h0), (1, .int i)] := hl
  refine lv_aload_n hx hb dX0_burstSpan_0 rfl (lv_at hl 0 rfl) ?_
  refine lv_iload_n hx hb dX0_burstSpan_1 rfl (lv_at hl 1 rfl) ?_
  refine k_i (va_runV (As := [.int i]) (rest := []) ⟨hx, hb, hml, hown, hts⟩ (c_X0_hasSpan l D cI cB cO H.size h0 h1 h2 n P i ) (cwV 1 hts gX0_burstSpan_X0_hasSpan rfl rfl rfl (by decide +kernel) ⟨Nat.le_of_ble_eq_true rfl, Nat.le_of_ble_eq_true rfl⟩) (preV_of hK hP hD hS hA hSt [0] (by decide) rfl 0 (ci := 0) rfl rfl) rfl rfl hl.1 rfl (lv_room (Nat.le_of_ble_eq_true rfl)) dX0_burstSpan_2 ⟨Nat.le_of_ble_eq_true rfl, Nat.le_of_ble_eq_true rfl⟩) hP hD hS hA [0] [1, 2] [2, 0, 1] [(h1, .inl (cI, 50, .inl F)), (h2, .inl (cI, 6, .inl G))] (fun (u_1 : Unit) => [(h0, .inr (0, [.int (nI n), .int P, .ref h1, .ref h2])), (h1, .inl (cI, 50, .inl F)), (h2, .inl (cI, 6, .inl G))]) rfl rfl (by decide) (by decide) (by decide) (fun _ => rfl) (fun r_1 u_1 H locs q_1 hP hD hS => ?_)
  obtain rfl : r_1 = bI (inR i 0 (nI n - 1)) := q_1
  refine lv_if_ne (tgt := 11) hx hb dX0_burstSpan_5 (by decide) (fun c_2 => ?_) (fun c_2 => ?_)
  · have c_2 := bI_n0.mp c_2
    obtain ⟨j, hj, rfl⟩ := span_in hn c_2
    refine lv_iconst (v := 1) hx hb dX0_burstSpan_11 (by decide) ?_
    refine lv_aload_n hx hb dX0_burstSpan_12 rfl (lv_at hl 0 rfl) ?_
    refine lv_iload_n hx hb dX0_burstSpan_13 rfl (lv_at hl 1 rfl) ?_
    refine lv_iconst (v := 4) hx hb dX0_burstSpan_14 (by decide) ?_
    refine k_i (va_runV (As := [.int (nI j), .int (nI 4)]) (rest := [.int 1]) ⟨hx, hb, hml, hown, hts⟩ (c_X0_fact l D cI cB cO H.size h0 h1 h2 n P F j 4 (by first | assumption | omega)) (cwV 2 hts gX0_burstSpan_X0_fact rfl rfl rfl (by decide +kernel) ⟨Nat.le_of_ble_eq_true rfl, Nat.le_of_ble_eq_true rfl⟩) (preV_of hK hP hD hS hA hSt [0, 1] (by decide) rfl 0 (ci := 0) rfl rfl) rfl rfl hl.1 rfl (lv_room (Nat.le_of_ble_eq_true rfl)) dX0_burstSpan_15 ⟨Nat.le_of_ble_eq_true rfl, Nat.le_of_ble_eq_true rfl⟩) hP hD hS hA [0, 1] [2] [1, 2, 0] [(h2, .inl (cI, 6, .inl G))] (fun (u_3 : Unit) => [(h0, .inr (0, [.int (nI n), .int P, .ref h1, .ref h2])), (h1, .inl (cI, 50, .inl F)), (h2, .inl (cI, 6, .inl G))]) rfl rfl (by decide) (by decide) (by decide) (fun _ => rfl) (fun r_3 u_3 H locs q_3 hP hD hS => ?_)
    obtain rfl : r_3 = F (j * 5 + 4) := q_3
    refine lv_isub hx hb dX0_burstSpan_18 ?_
    refine lv_istore_n (lv' := [(2, .int (1 - (F (j * 5 + 4)))), (0, .ref h0), (1, .int (nI j))]) hx hb dX0_burstSpan_19 rfl hl (by decide) rfl (fun ls hl => ?_)
    refine lv_aload_n hx hb dX0_burstSpan_20 rfl (lv_at hl 1 rfl) ?_
    refine lv_iload_n hx hb dX0_burstSpan_21 rfl (lv_at hl 2 rfl) ?_
    refine lv_iconst (v := 4) hx hb dX0_burstSpan_22 (by decide) ?_
    refine lv_iconst (v := 1) hx hb dX0_burstSpan_23 (by decide) ?_
    refine k_v (va_runV (As := [.int (nI j), .int (nI 4), .int 1]) (rest := []) ⟨hx, hb, hml, hown, hts⟩ (c_X0_setFact l D cI cB cO H.size h0 h1 h2 n P F j 4 1 (by first | assumption | omega)) (cwV 3 hts gX0_burstSpan_X0_setFact rfl rfl rfl (by decide +kernel) ⟨Nat.le_of_ble_eq_true rfl, Nat.le_of_ble_eq_true rfl⟩) (preV_of hK hP hD hS hA hSt [0, 1] (by decide) rfl 0 (ci := 0) rfl rfl) rfl rfl hl.1 rfl (lv_room (Nat.le_of_ble_eq_true rfl)) dX0_burstSpan_24 ⟨Nat.le_of_ble_eq_true rfl, Nat.le_of_ble_eq_true rfl⟩) hP hD hS hA [0, 1] [2] [1, 2, 0] [(h2, .inl (cI, 6, .inl G))] (fun (u_4 : Unit) => [(h0, .inr (0, [.int (nI n), .int P, .ref h1, .ref h2])), (h1, .inl (cI, 50, .inl (upd F (j * 5 + 4) 1))), (h2, .inl (cI, 6, .inl G))]) rfl rfl (by decide) (by decide) (by decide) (fun _ => rfl) (fun u_4 H locs q_4 hP hD hS => ?_)
    refine lv_iload_n hx hb dX0_burstSpan_27 rfl (lv_at hl 0 rfl) ?_
    refine e_i (u := (n, P, upd F (j * 5 + 4) 1, G)) hx hb hr hlocks hP hD hS dX0_burstSpan_28 ?_ ?_
    · rfl
    · exact (sBurst_ok (by omega) (by assumption)).symm
  · have c_2 := bI_0.mp c_2
    refine lv_ldc (v := -1000002) hx hb hown (hts (.constant RX0 38 (-1000002)) (List.mem_of_getElem? (i := 1) (by decide +kernel))) dX0_burstSpan_8 ?_
    refine e_i (u := (n, P, F, G)) hx hb hr hlocks hP hD hS dX0_burstSpan_10 ?_ ?_
    · rfl
    · exact (sBurst_f (by assumption)).symm
theorem in_X0_mendSpan_0 : ∀ w ∈ wsX00, w ∈ wsX0_mendSpan := fun _ h => List.mem_cons_of_mem _ (List.mem_append_right _ h)
set_option maxHeartbeats 4000000 in
set_option maxRecDepth 100000 in
theorem c_X0_mendSpan (l : Launch) (D : va_G) (cI cB cO : ClassId) (sz : Nat) (h0 h1 h2 n : Nat) (P : Int32) (F G : Nat → Int32) (i : Int32) (hn : n ≤ 10) : CI l yX0_mendSpan wsX0_mendSpan ({ frames := 2, cells := 0, slots := 0, locals := 43 } : Room) D (tyL cI cB cO) [.ref h0, .int i] [(h0, .inr (0, [.int (nI n), .int P, .ref h1, .ref h2])), (h1, .inl (cI, 50, .inl F)), (h2, .inl (cI, 6, .inl G))] sz (fun (ans : Int32) (u : Ln) => (ans, u) = sMend (n, P, F, G) i) (fun (u : Ln) => [(h0, .inr (0, [.int (nI u.1), .int u.2.1, .ref h1, .ref h2])), (h1, .inl (cI, 50, .inl u.2.2.1)), (h2, .inl (cI, 6, .inl u.2.2.2))]) 0 0 := by
  refine ct_of (cc := cX0_mendSpan) (maxL := 2) (ret := some .int) (own := RX0) (Qc := QI D (fun (ans : Int32) (u : Ln) => (ans, u) = sMend (n, P, F, G) i) (fun (u : Ln) => [(h0, .inr (0, [.int (nI u.1), .int u.2.1, .ref h1, .ref h2])), (h1, .inl (cI, 50, .inl u.2.2.1)), (h2, .inl (cI, 6, .inl u.2.2.2))])) (by decide) rfl rfl (Nat.le_of_ble_eq_true rfl) ?_
  intro pM eM sM mM below meth cM AM ls H locs hx hb hr hts hown hlocks hml hin hK hP hD hS hA hSt hl
  have hl : lv_has ls 2 [(0, .ref h0), (1, .int i)] := hl
  refine lv_aload_n hx hb dX0_mendSpan_0 rfl (lv_at hl 0 rfl) ?_
  refine lv_iload_n hx hb dX0_mendSpan_1 rfl (lv_at hl 1 rfl) ?_
  refine k_i (va_runV (As := [.int i]) (rest := []) ⟨hx, hb, hml, hown, hts⟩ (c_X0_hasSpan l D cI cB cO H.size h0 h1 h2 n P i ) (cwV 1 hts gX0_mendSpan_X0_hasSpan rfl rfl rfl (by decide +kernel) ⟨Nat.le_of_ble_eq_true rfl, Nat.le_of_ble_eq_true rfl⟩) (preV_of hK hP hD hS hA hSt [0] (by decide) rfl 0 (ci := 0) rfl rfl) rfl rfl hl.1 rfl (lv_room (Nat.le_of_ble_eq_true rfl)) dX0_mendSpan_2 ⟨Nat.le_of_ble_eq_true rfl, Nat.le_of_ble_eq_true rfl⟩) hP hD hS hA [0] [1, 2] [2, 0, 1] [(h1, .inl (cI, 50, .inl F)), (h2, .inl (cI, 6, .inl G))] (fun (u_1 : Unit) => [(h0, .inr (0, [.int (nI n), .int P, .ref h1, .ref h2])), (h1, .inl (cI, 50, .inl F)), (h2, .inl (cI, 6, .inl G))]) rfl rfl (by decide) (by decide) (by decide) (fun _ => rfl) (fun r_1 u_1 H locs q_1 hP hD hS => ?_)
  obtain rfl : r_1 = bI (inR i 0 (nI n - 1)) := q_1
  refine lv_if_ne (tgt := 11) hx hb dX0_mendSpan_5 (by decide) (fun c_2 => ?_) (fun c_2 => ?_)
  · have c_2 := bI_n0.mp c_2
    obtain ⟨j, hj, rfl⟩ := span_in hn c_2
    refine lv_aload_n hx hb dX0_mendSpan_11 rfl (lv_at hl 0 rfl) ?_
    refine lv_iload_n hx hb dX0_mendSpan_12 rfl (lv_at hl 1 rfl) ?_
    refine lv_iconst (v := 4) hx hb dX0_mendSpan_13 (by decide) ?_
    refine k_i (va_runV (As := [.int (nI j), .int (nI 4)]) (rest := []) ⟨hx, hb, hml, hown, hts⟩ (c_X0_fact l D cI cB cO H.size h0 h1 h2 n P F j 4 (by first | assumption | omega)) (cwV 2 hts gX0_mendSpan_X0_fact rfl rfl rfl (by decide +kernel) ⟨Nat.le_of_ble_eq_true rfl, Nat.le_of_ble_eq_true rfl⟩) (preV_of hK hP hD hS hA hSt [0, 1] (by decide) rfl 0 (ci := 0) rfl rfl) rfl rfl hl.1 rfl (lv_room (Nat.le_of_ble_eq_true rfl)) dX0_mendSpan_14 ⟨Nat.le_of_ble_eq_true rfl, Nat.le_of_ble_eq_true rfl⟩) hP hD hS hA [0, 1] [2] [1, 2, 0] [(h2, .inl (cI, 6, .inl G))] (fun (u_3 : Unit) => [(h0, .inr (0, [.int (nI n), .int P, .ref h1, .ref h2])), (h1, .inl (cI, 50, .inl F)), (h2, .inl (cI, 6, .inl G))]) rfl rfl (by decide) (by decide) (by decide) (fun _ => rfl) (fun r_3 u_3 H locs q_3 hP hD hS => ?_)
    obtain rfl : r_3 = F (j * 5 + 4) := q_3
    refine lv_if_eq (tgt := 34) hx hb dX0_mendSpan_17 (by decide) (fun c_4 => ?_) (fun c_4 => ?_)
    · refine lv_ldc (v := -1000003) hx hb hown (hts (.constant RX0 44 (-1000003)) (List.mem_of_getElem? (i := 3) (by decide +kernel))) dX0_mendSpan_34 ?_
      refine e_i (u := (n, P, F, G)) hx hb hr hlocks hP hD hS dX0_mendSpan_36 ?_ ?_
      · rfl
      · first | exact (sMend_n1 (by omega) (by assumption) (by assumption)).symm | exact (sMend_n2 (by omega) (by assumption) (by assumption)).symm
    · refine lv_aload_n hx hb dX0_mendSpan_20 rfl (lv_at hl 0 rfl) ?_
      refine va_get (D := D) (ci := 0) (v := .ref h2) (C := RX0) (T := TX0) (N := 4) hx hb hts in_X0_mendSpan_0 hown hK hP 0 rfl rfl 3 (by decide) (hts (.fieldLink RX0 22 "HoseSpans$Line" "settings" "[I") (List.mem_of_getElem? (i := 2) (by decide +kernel))) (fun _ h9 => h9) rfl dX0_mendSpan_21 ?_
      refine lv_iconst (v := 5) hx hb dX0_mendSpan_24 (by decide) ?_
      refine va_iald hx hb hK hP 2 0 rfl rfl (vp_in_nI (n := 5) (by decide) (by decide)) dX0_mendSpan_25 ?_
      refine e_n (y := G 5) (congrArg G (by decide)) ?_
      refine lv_aload_n hx hb dX0_mendSpan_26 rfl (lv_at hl 0 rfl) ?_
      refine lv_iload_n hx hb dX0_mendSpan_27 rfl (lv_at hl 1 rfl) ?_
      refine k_i (va_runV (As := [.int (nI j)]) (rest := [.int (G 5)]) ⟨hx, hb, hml, hown, hts⟩ (c_X0_hosesOf l D cI cB cO H.size h0 h1 h2 n P F j (by first | assumption | omega)) (cwV 1 hts gX0_mendSpan_X0_hosesOf rfl rfl rfl (by decide +kernel) ⟨Nat.le_of_ble_eq_true rfl, Nat.le_of_ble_eq_true rfl⟩) (preV_of hK hP hD hS hA hSt [0, 1] (by decide) rfl 0 (ci := 0) rfl rfl) rfl rfl hl.1 rfl (lv_room (Nat.le_of_ble_eq_true rfl)) dX0_mendSpan_28 ⟨Nat.le_of_ble_eq_true rfl, Nat.le_of_ble_eq_true rfl⟩) hP hD hS hA [0, 1] [2] [1, 2, 0] [(h2, .inl (cI, 6, .inl G))] (fun (u_5 : Unit) => [(h0, .inr (0, [.int (nI n), .int P, .ref h1, .ref h2])), (h1, .inl (cI, 50, .inl F)), (h2, .inl (cI, 6, .inl G))]) rfl rfl (by decide) (by decide) (by decide) (fun _ => rfl) (fun r_5 u_5 H locs q_5 hP hD hS => ?_)
      obtain rfl : r_5 = hosesF F j := q_5
      refine lv_icmp_ge (tgt := 37) hx hb dX0_mendSpan_31 (by decide) (fun c_6 => ?_) (fun c_6 => ?_)
      · have c_6 := Int32.not_lt.mpr c_6
        refine lv_aload_n hx hb dX0_mendSpan_37 rfl (lv_at hl 0 rfl) ?_
        refine lv_iload_n hx hb dX0_mendSpan_38 rfl (lv_at hl 1 rfl) ?_
        refine lv_iconst (v := 4) hx hb dX0_mendSpan_39 (by decide) ?_
        refine lv_iconst (v := 0) hx hb dX0_mendSpan_40 (by decide) ?_
        refine k_v (va_runV (As := [.int (nI j), .int (nI 4), .int 0]) (rest := []) ⟨hx, hb, hml, hown, hts⟩ (c_X0_setFact l D cI cB cO H.size h0 h1 h2 n P F j 4 0 (by first | assumption | omega)) (cwV 3 hts gX0_mendSpan_X0_setFact rfl rfl rfl (by decide +kernel) ⟨Nat.le_of_ble_eq_true rfl, Nat.le_of_ble_eq_true rfl⟩) (preV_of hK hP hD hS hA hSt [0, 1] (by decide) rfl 0 (ci := 0) rfl rfl) rfl rfl hl.1 rfl (lv_room (Nat.le_of_ble_eq_true rfl)) dX0_mendSpan_41 ⟨Nat.le_of_ble_eq_true rfl, Nat.le_of_ble_eq_true rfl⟩) hP hD hS hA [0, 1] [2] [1, 2, 0] [(h2, .inl (cI, 6, .inl G))] (fun (u_7 : Unit) => [(h0, .inr (0, [.int (nI n), .int P, .ref h1, .ref h2])), (h1, .inl (cI, 50, .inl (upd F (j * 5 + 4) 0))), (h2, .inl (cI, 6, .inl G))]) rfl rfl (by decide) (by decide) (by decide) (fun _ => rfl) (fun u_7 H locs q_7 hP hD hS => ?_)
        refine lv_aload_n hx hb dX0_mendSpan_44 rfl (lv_at hl 0 rfl) ?_
        refine va_get (D := D) (ci := 0) (v := .ref h2) (C := RX0) (T := TX0) (N := 4) hx hb hts in_X0_mendSpan_0 hown hK hP 0 rfl rfl 3 (by decide) (hts (.fieldLink RX0 22 "HoseSpans$Line" "settings" "[I") (List.mem_of_getElem? (i := 2) (by decide +kernel))) (fun _ h9 => h9) rfl dX0_mendSpan_45 ?_
        refine lv_iconst (v := 5) hx hb dX0_mendSpan_48 (by decide) ?_
        refine lv_dup2_11 hx hb dX0_mendSpan_49 rfl rfl ?_
        refine va_iald hx hb hK hP 2 0 rfl rfl (vp_in_nI (n := 5) (by decide) (by decide)) dX0_mendSpan_50 ?_
        refine e_n (y := G 5) (congrArg G (by decide)) ?_
        refine lv_aload_n hx hb dX0_mendSpan_51 rfl (lv_at hl 0 rfl) ?_
        refine lv_iload_n hx hb dX0_mendSpan_52 rfl (lv_at hl 1 rfl) ?_
        refine k_i (va_runV (As := [.int (nI j)]) (rest := [.int (G 5), .int 5, .ref h2]) ⟨hx, hb, hml, hown, hts⟩ (c_X0_hosesOf l D cI cB cO H.size h0 h1 h2 n P (upd F (j * 5 + 4) 0) j (by first | assumption | omega)) (cwV 1 hts gX0_mendSpan_X0_hosesOf rfl rfl rfl (by decide +kernel) ⟨Nat.le_of_ble_eq_true rfl, Nat.le_of_ble_eq_true rfl⟩) (preV_of hK hP hD hS hA hSt [0, 1] (by decide) rfl 0 (ci := 0) rfl rfl) rfl rfl hl.1 rfl (lv_room (Nat.le_of_ble_eq_true rfl)) dX0_mendSpan_53 ⟨Nat.le_of_ble_eq_true rfl, Nat.le_of_ble_eq_true rfl⟩) hP hD hS hA [0, 1] [2] [1, 2, 0] [(h2, .inl (cI, 6, .inl G))] (fun (u_8 : Unit) => [(h0, .inr (0, [.int (nI n), .int P, .ref h1, .ref h2])), (h1, .inl (cI, 50, .inl (upd F (j * 5 + 4) 0))), (h2, .inl (cI, 6, .inl G))]) rfl rfl (by decide) (by decide) (by decide) (fun _ => rfl) (fun r_8 u_8 H locs q_8 hP hD hS => ?_)
        obtain rfl : r_8 = hosesF (upd F (j * 5 + 4) 0) j := q_8
        refine e_n (y := hosesF F j) upd_hosesF ?_
        refine lv_isub hx hb dX0_mendSpan_56 ?_
        refine va_iast hx hb hK hP hD hS 2 0 rfl rfl (vp_in_nI (n := 5) (by decide) (by decide)) dX0_mendSpan_57 (fun H locs hP hD hS => ?_)
        rw [show Int32.toNatClampNeg 5 = 5 from (by decide)] at hP hD
        have hP : va_P D vwCl [(h0, .inr (0, [.int (nI n), .int P, .ref h1, .ref h2])), (h1, .inl (cI, 50, .inl (upd F (j * 5 + 4) 0))), (h2, .inl (cI, 6, .inl (upd G 5 ((G 5) - (hosesF F j)))))] H := hP
        have hD : va_D AM [(h0, .inr (0, [.int (nI n), .int P, .ref h1, .ref h2])), (h1, .inl (cI, 50, .inl (upd F (j * 5 + 4) 0))), (h2, .inl (cI, 6, .inl (upd G 5 ((G 5) - (hosesF F j)))))] := hD
        refine lv_aload_n hx hb dX0_mendSpan_58 rfl (lv_at hl 0 rfl) ?_
        refine va_get (D := D) (ci := 0) (v := .ref h2) (C := RX0) (T := TX0) (N := 4) hx hb hts in_X0_mendSpan_0 hown hK hP 0 rfl rfl 3 (by decide) (hts (.fieldLink RX0 22 "HoseSpans$Line" "settings" "[I") (List.mem_of_getElem? (i := 2) (by decide +kernel))) (fun _ h9 => h9) rfl dX0_mendSpan_59 ?_
        refine lv_iconst (v := 5) hx hb dX0_mendSpan_62 (by decide) ?_
        refine va_iald hx hb hK hP 2 0 rfl rfl (vp_in_nI (n := 5) (by decide) (by decide)) dX0_mendSpan_63 ?_
        refine e_n (y := (upd G 5 ((G 5) - (hosesF F j))) 5) (congrArg (upd G 5 ((G 5) - (hosesF F j))) (by decide)) ?_
        refine e_n (y := G 5 - hosesF F j) pk_us ?_
        refine e_i (u := (n, P, upd F (j * 5 + 4) 0, upd G 5 (G 5 - hosesF F j))) hx hb hr hlocks hP hD hS dX0_mendSpan_64 ?_ ?_
        · rfl
        · exact (sMend_ok (by omega) (by assumption) (by assumption) (by assumption)).symm
      · have c_6 := Int32.not_le.mp c_6
        refine lv_ldc (v := -1000003) hx hb hown (hts (.constant RX0 44 (-1000003)) (List.mem_of_getElem? (i := 3) (by decide +kernel))) dX0_mendSpan_34 ?_
        refine e_i (u := (n, P, F, G)) hx hb hr hlocks hP hD hS dX0_mendSpan_36 ?_ ?_
        · rfl
        · first | exact (sMend_n1 (by omega) (by assumption) (by assumption)).symm | exact (sMend_n2 (by omega) (by assumption) (by assumption)).symm
  · have c_2 := bI_0.mp c_2
    refine lv_ldc (v := -1000002) hx hb hown (hts (.constant RX0 38 (-1000002)) (List.mem_of_getElem? (i := 1) (by decide +kernel))) dX0_mendSpan_8 ?_
    refine e_i (u := (n, P, F, G)) hx hb hr hlocks hP hD hS dX0_mendSpan_10 ?_ ?_
    · rfl
    · exact (sMend_f (by assumption)).symm
theorem in_X0_allLengths_0 : ∀ w ∈ wsX00, w ∈ wsX0_allLengths := fun _ h => List.mem_cons_of_mem _ (List.mem_append_right _ h)
set_option maxHeartbeats 4000000 in
set_option maxRecDepth 100000 in
theorem c_X0_allLengths (l : Launch) (D : va_G) (cI cB cO : ClassId) (sz : Nat) (h0 h1 h2 n : Nat) (P : Int32) (F : Nat → Int32) (hn : n ≤ 10) : CI l yX0_allLengths wsX0_allLengths ({ frames := 2, cells := 0, slots := 0, locals := 43 } : Room) D (tyL cI cB cO) [.ref h0] [(h0, .inr (0, [.int (nI n), .int P, .ref h1, .ref h2])), (h1, .inl (cI, 50, .inl F))] sz (fun (r : Int32) (_ : Unit) => r = sumH F n) (fun (u : Unit) => [(h0, .inr (0, [.int (nI n), .int P, .ref h1, .ref h2])), (h1, .inl (cI, 50, .inl F))]) 0 0 := by
  refine ct_of (cc := cX0_allLengths) (maxL := 3) (ret := some .int) (own := RX0) (Qc := QI D (fun (r : Int32) (_ : Unit) => r = sumH F n) (fun (u : Unit) => [(h0, .inr (0, [.int (nI n), .int P, .ref h1, .ref h2])), (h1, .inl (cI, 50, .inl F))])) (by decide) rfl rfl (Nat.le_of_ble_eq_true rfl) ?_
  intro pM eM sM mM below meth cM AM ls H locs hx hb hr hts hown hlocks hml hin hK hP hD hS hA hSt hl
  have hl : lv_has ls 3 [(0, .ref h0)] := hl
  refine lv_iconst (v := 0) hx hb dX0_allLengths_0 (by decide) ?_
  refine lv_istore_n (lv' := [(1, .int 0), (0, .ref h0)]) hx hb dX0_allLengths_1 rfl hl (by decide) rfl (fun ls hl => ?_)
  refine lv_iconst (v := 0) hx hb dX0_allLengths_2 (by decide) ?_
  refine lv_istore_n (lv' := [(2, .int 0), (1, .int 0), (0, .ref h0)]) hx hb dX0_allLengths_3 rfl hl (by decide) rfl (fun ls hl => ?_)
  have lp_1 : ∀ (nn : Nat) (i : Nat), (i ≤ n) → (n - i) < nn → ∀ (H : Heap) (locs : List Loc), va_P D vwCl [(h0, .inr (0, [.int (nI n), .int P, .ref h1, .ref h2])), (h1, .inl (cI, 50, .inl F))] H → va_D AM [(h0, .inr (0, [.int (nI n), .int P, .ref h1, .ref h2])), (h1, .inl (cI, 50, .inl F))] → va_S AM sM.heap H locs → ∀ (ls : Array Slot), lv_has ls 3 [(0, .ref h0), (1, .int (sumH F i)), (2, .int (nI i))] → W pM l eM ({ frames := 2, cells := 0, slots := 0, locals := 43 } : Room) sM mM ([.ref h0] : List Value).toArray below meth cM H locs 0 0 (MQ below (QI D (fun (r : Int32) (_ : Unit) => r = sumH F n) (fun (u : Unit) => [(h0, .inr (0, [.int (nI n), .int P, .ref h1, .ref h2])), (h1, .inl (cI, 50, .inl F))]) AM) ([.ref h0] : List Value).toArray sM 0 0 AM) (F0 mM 4 ls []) := by
    intro nn
    induction nn with
    | zero =>
      intro i hi hm
      exact absurd hm (Nat.not_lt_zero _)
    | succ nn ih_2 =>
      intro i hi hm H locs hP hD hS ls hl
      refine lv_iload_n hx hb dX0_allLengths_4 rfl (lv_at hl 2 rfl) ?_
      refine lv_aload_n hx hb dX0_allLengths_5 rfl (lv_at hl 0 rfl) ?_
      refine va_get (D := D) (ci := 0) (v := .int (nI n)) (C := RX0) (T := TX0) (N := 4) hx hb hts in_X0_allLengths_0 hown hK hP 0 rfl rfl 0 (by decide) (hts (.fieldLink RX0 9 "HoseSpans$Line" "spans" "I") (List.mem_of_getElem? (i := 1) (by decide +kernel))) (fun _ h9 => h9) rfl dX0_allLengths_6 ?_
      refine lv_icmp_ge (tgt := 26) hx hb dX0_allLengths_9 (by decide) (fun c_3 => ?_) (fun c_3 => ?_)
      · have c_3 := Int32.not_lt.mpr c_3
        have c_3 : i = n := by have h := mt (nI_ltI (a := i) (b := n) (by omega) (by omega)).mpr c_3; omega
        refine lv_iload_n hx hb dX0_allLengths_26 rfl (lv_at hl 1 rfl) ?_
        refine e_i (u := ()) hx hb hr hlocks hP hD hS dX0_allLengths_27 ?_ ?_
        · rfl
        · exact congrArg _ ‹i = n›
      · have c_3 := Int32.not_le.mp c_3
        have c_3 : i < n := (nI_ltI (by omega) (by omega)).mp c_3
        refine lv_iload_n hx hb dX0_allLengths_12 rfl (lv_at hl 1 rfl) ?_
        refine lv_aload_n hx hb dX0_allLengths_13 rfl (lv_at hl 0 rfl) ?_
        refine lv_iload_n hx hb dX0_allLengths_14 rfl (lv_at hl 2 rfl) ?_
        refine k_i (va_runV (As := [.int (nI i)]) (rest := [.int (sumH F i)]) ⟨hx, hb, hml, hown, hts⟩ (c_X0_hosesOf l D cI cB cO H.size h0 h1 h2 n P F i (by first | assumption | omega)) (cwV 1 hts gX0_allLengths_X0_hosesOf rfl rfl rfl (by decide +kernel) ⟨Nat.le_of_ble_eq_true rfl, Nat.le_of_ble_eq_true rfl⟩) (preV_of hK hP hD hS hA hSt [0, 1] (by decide) rfl 0 (ci := 0) rfl rfl) rfl rfl hl.1 rfl (lv_room (Nat.le_of_ble_eq_true rfl)) dX0_allLengths_15 ⟨Nat.le_of_ble_eq_true rfl, Nat.le_of_ble_eq_true rfl⟩) hP hD hS hA [0, 1] [] [0, 1] [] (fun (u_4 : Unit) => [(h0, .inr (0, [.int (nI n), .int P, .ref h1, .ref h2])), (h1, .inl (cI, 50, .inl F))]) rfl rfl (by decide) (by decide) (by decide) (fun _ => rfl) (fun r_4 u_4 H locs q_4 hP hD hS => ?_)
        obtain rfl : r_4 = hosesF F i := q_4
        refine lv_iadd hx hb dX0_allLengths_18 ?_
        refine lv_istore_n (lv' := [(1, .int ((sumH F i) + (hosesF F i))), (0, .ref h0), (2, .int (nI i))]) hx hb dX0_allLengths_19 rfl hl (by decide) rfl (fun ls hl => ?_)
        refine lv_iinc (v := nI (i + 1)) (lv' := [(2, .int (nI (i + 1))), (1, .int ((sumH F i) + (hosesF F i))), (0, .ref h0)]) hx hb dX0_allLengths_20 hl (k := 2) rfl (nI_add i 1) (by decide) rfl (fun ls hl => ?_)
        refine lv_goto (tgt := 4) hx hb dX0_allLengths_23 (by decide) ?_
        have hl9 : lv_has ls 3 [(0, .ref h0), (1, .int ((sumH F i) + (hosesF F i))), (2, .int (nI (i + 1)))] := lv_sub hl [2, 1, 0] rfl
        rw [show ([(0, .ref h0), (1, .int ((sumH F i) + (hosesF F i))), (2, .int (nI (i + 1)))] : List (Nat × Value)) = [(0, .ref h0), (1, .int (sumH F (i + 1))), (2, .int (nI (i + 1)))] from rfl] at hl9
        exact ih_2 (i + 1) (by first | assumption | omega) (by omega) H locs hP hD hS ls hl9
  have hl9 : lv_has ls 3 [(0, .ref h0), (1, .int 0), (2, .int 0)] := lv_sub hl [2, 1, 0] rfl
  rw [show ([(0, .ref h0), (1, .int 0), (2, .int 0)] : List (Nat × Value)) = [(0, .ref h0), (1, .int (sumH F 0)), (2, .int (nI 0))] from rfl] at hl9
  exact lp_1 ((n - 0) + 1) 0 (by first | assumption | omega) (Nat.lt_succ_self _) H locs hP hD hS ls hl9
theorem in_X0_burstSpans_0 : ∀ w ∈ wsX00, w ∈ wsX0_burstSpans := fun _ h => List.mem_cons_of_mem _ (List.mem_append_right _ h)
set_option maxHeartbeats 4000000 in
set_option maxRecDepth 100000 in
theorem c_X0_burstSpans (l : Launch) (D : va_G) (cI cB cO : ClassId) (sz : Nat) (h0 h1 h2 n : Nat) (P : Int32) (F : Nat → Int32) (hn : n ≤ 10) : CI l yX0_burstSpans wsX0_burstSpans ({ frames := 1, cells := 0, slots := 0, locals := 22 } : Room) D (tyL cI cB cO) [.ref h0] [(h0, .inr (0, [.int (nI n), .int P, .ref h1, .ref h2])), (h1, .inl (cI, 50, .inl F))] sz (fun (r : Int32) (_ : Unit) => r = sumB F n) (fun (u : Unit) => [(h0, .inr (0, [.int (nI n), .int P, .ref h1, .ref h2])), (h1, .inl (cI, 50, .inl F))]) 0 0 := by
  refine ct_of (cc := cX0_burstSpans) (maxL := 3) (ret := some .int) (own := RX0) (Qc := QI D (fun (r : Int32) (_ : Unit) => r = sumB F n) (fun (u : Unit) => [(h0, .inr (0, [.int (nI n), .int P, .ref h1, .ref h2])), (h1, .inl (cI, 50, .inl F))])) (by decide) rfl rfl (Nat.le_of_ble_eq_true rfl) ?_
  intro pM eM sM mM below meth cM AM ls H locs hx hb hr hts hown hlocks hml hin hK hP hD hS hA hSt hl
  have hl : lv_has ls 3 [(0, .ref h0)] := hl
  refine lv_iconst (v := 0) hx hb dX0_burstSpans_0 (by decide) ?_
  refine lv_istore_n (lv' := [(1, .int 0), (0, .ref h0)]) hx hb dX0_burstSpans_1 rfl hl (by decide) rfl (fun ls hl => ?_)
  refine lv_iconst (v := 0) hx hb dX0_burstSpans_2 (by decide) ?_
  refine lv_istore_n (lv' := [(2, .int 0), (1, .int 0), (0, .ref h0)]) hx hb dX0_burstSpans_3 rfl hl (by decide) rfl (fun ls hl => ?_)
  have lp_1 : ∀ (nn : Nat) (i : Nat), (i ≤ n) → (n - i) < nn → ∀ (H : Heap) (locs : List Loc), va_P D vwCl [(h0, .inr (0, [.int (nI n), .int P, .ref h1, .ref h2])), (h1, .inl (cI, 50, .inl F))] H → va_D AM [(h0, .inr (0, [.int (nI n), .int P, .ref h1, .ref h2])), (h1, .inl (cI, 50, .inl F))] → va_S AM sM.heap H locs → ∀ (ls : Array Slot), lv_has ls 3 [(0, .ref h0), (1, .int (sumB F i)), (2, .int (nI i))] → W pM l eM ({ frames := 1, cells := 0, slots := 0, locals := 22 } : Room) sM mM ([.ref h0] : List Value).toArray below meth cM H locs 0 0 (MQ below (QI D (fun (r : Int32) (_ : Unit) => r = sumB F n) (fun (u : Unit) => [(h0, .inr (0, [.int (nI n), .int P, .ref h1, .ref h2])), (h1, .inl (cI, 50, .inl F))]) AM) ([.ref h0] : List Value).toArray sM 0 0 AM) (F0 mM 4 ls []) := by
    intro nn
    induction nn with
    | zero =>
      intro i hi hm
      exact absurd hm (Nat.not_lt_zero _)
    | succ nn ih_2 =>
      intro i hi hm H locs hP hD hS ls hl
      refine lv_iload_n hx hb dX0_burstSpans_4 rfl (lv_at hl 2 rfl) ?_
      refine lv_aload_n hx hb dX0_burstSpans_5 rfl (lv_at hl 0 rfl) ?_
      refine va_get (D := D) (ci := 0) (v := .int (nI n)) (C := RX0) (T := TX0) (N := 4) hx hb hts in_X0_burstSpans_0 hown hK hP 0 rfl rfl 0 (by decide) (hts (.fieldLink RX0 9 "HoseSpans$Line" "spans" "I") (List.mem_of_getElem? (i := 1) (by decide +kernel))) (fun _ h9 => h9) rfl dX0_burstSpans_6 ?_
      refine lv_icmp_ge (tgt := 27) hx hb dX0_burstSpans_9 (by decide) (fun c_3 => ?_) (fun c_3 => ?_)
      · have c_3 := Int32.not_lt.mpr c_3
        have c_3 : i = n := by have h := mt (nI_ltI (a := i) (b := n) (by omega) (by omega)).mpr c_3; omega
        refine lv_iload_n hx hb dX0_burstSpans_27 rfl (lv_at hl 1 rfl) ?_
        refine e_i (u := ()) hx hb hr hlocks hP hD hS dX0_burstSpans_28 ?_ ?_
        · rfl
        · exact congrArg _ ‹i = n›
      · have c_3 := Int32.not_le.mp c_3
        have c_3 : i < n := (nI_ltI (by omega) (by omega)).mp c_3
        refine lv_iload_n hx hb dX0_burstSpans_12 rfl (lv_at hl 1 rfl) ?_
        refine lv_aload_n hx hb dX0_burstSpans_13 rfl (lv_at hl 0 rfl) ?_
        refine lv_iload_n hx hb dX0_burstSpans_14 rfl (lv_at hl 2 rfl) ?_
        refine lv_iconst (v := 4) hx hb dX0_burstSpans_15 (by decide) ?_
        refine k_i (va_runV (As := [.int (nI i), .int (nI 4)]) (rest := [.int (sumB F i)]) ⟨hx, hb, hml, hown, hts⟩ (c_X0_fact l D cI cB cO H.size h0 h1 h2 n P F i 4 (by first | assumption | omega)) (cwV 2 hts gX0_burstSpans_X0_fact rfl rfl rfl (by decide +kernel) ⟨Nat.le_of_ble_eq_true rfl, Nat.le_of_ble_eq_true rfl⟩) (preV_of hK hP hD hS hA hSt [0, 1] (by decide) rfl 0 (ci := 0) rfl rfl) rfl rfl hl.1 rfl (lv_room (Nat.le_of_ble_eq_true rfl)) dX0_burstSpans_16 ⟨Nat.le_of_ble_eq_true rfl, Nat.le_of_ble_eq_true rfl⟩) hP hD hS hA [0, 1] [] [0, 1] [] (fun (u_4 : Unit) => [(h0, .inr (0, [.int (nI n), .int P, .ref h1, .ref h2])), (h1, .inl (cI, 50, .inl F))]) rfl rfl (by decide) (by decide) (by decide) (fun _ => rfl) (fun r_4 u_4 H locs q_4 hP hD hS => ?_)
        obtain rfl : r_4 = F (i * 5 + 4) := q_4
        refine lv_iadd hx hb dX0_burstSpans_19 ?_
        refine lv_istore_n (lv' := [(1, .int ((sumB F i) + (F (i * 5 + 4)))), (0, .ref h0), (2, .int (nI i))]) hx hb dX0_burstSpans_20 rfl hl (by decide) rfl (fun ls hl => ?_)
        refine lv_iinc (v := nI (i + 1)) (lv' := [(2, .int (nI (i + 1))), (1, .int ((sumB F i) + (F (i * 5 + 4)))), (0, .ref h0)]) hx hb dX0_burstSpans_21 hl (k := 2) rfl (nI_add i 1) (by decide) rfl (fun ls hl => ?_)
        refine lv_goto (tgt := 4) hx hb dX0_burstSpans_24 (by decide) ?_
        have hl9 : lv_has ls 3 [(0, .ref h0), (1, .int ((sumB F i) + (F (i * 5 + 4)))), (2, .int (nI (i + 1)))] := lv_sub hl [2, 1, 0] rfl
        rw [show ([(0, .ref h0), (1, .int ((sumB F i) + (F (i * 5 + 4)))), (2, .int (nI (i + 1)))] : List (Nat × Value)) = [(0, .ref h0), (1, .int (sumB F (i + 1))), (2, .int (nI (i + 1)))] from rfl] at hl9
        exact ih_2 (i + 1) (by first | assumption | omega) (by omega) H locs hP hD hS ls hl9
  have hl9 : lv_has ls 3 [(0, .ref h0), (1, .int 0), (2, .int 0)] := lv_sub hl [2, 1, 0] rfl
  rw [show ([(0, .ref h0), (1, .int 0), (2, .int 0)] : List (Nat × Value)) = [(0, .ref h0), (1, .int (sumB F 0)), (2, .int (nI 0))] from rfl] at hl9
  exact lp_1 ((n - 0) + 1) 0 (by first | assumption | omega) (Nat.lt_succ_self _) H locs hP hD hS ls hl9
theorem in_X0_copyFrom_0 : ∀ w ∈ wsX00, w ∈ wsX0_copyFrom := fun _ h => List.mem_cons_of_mem _ (List.mem_append_right _ h)
set_option maxHeartbeats 4000000 in
set_option maxRecDepth 100000 in
theorem c_X0_copyFrom (l : Launch) (D : va_G) (cI cB cO : ClassId) (sz : Nat) (h0 h1 h2 n : Nat) (P : Int32) (F G : Nat → Int32) (k0 k1 k2 n2 : Nat) (P2 : Int32) (F2 G2 : Nat → Int32)  : CV l yX0_copyFrom wsX0_copyFrom ({ frames := 1, cells := 0, slots := 0, locals := 60 } : Room) D (tyL cI cB cO) [.ref h0, .ref k0] [(h0, .inr (0, [.int (nI n), .int P, .ref h1, .ref h2])), (h1, .inl (cI, 50, .inl F)), (h2, .inl (cI, 6, .inl G)), (k0, .inr (0, [.int (nI n2), .int P2, .ref k1, .ref k2])), (k1, .inl (cI, 50, .inl F2)), (k2, .inl (cI, 6, .inl G2))] sz (fun (_ : Unit) => True) (fun (u : Unit) => [(h0, .inr (0, [.int (nI n2), .int P2, .ref h1, .ref h2])), (h1, .inl (cI, 50, .inl F2)), (h2, .inl (cI, 6, .inl G2)), (k0, .inr (0, [.int (nI n2), .int P2, .ref k1, .ref k2])), (k1, .inl (cI, 50, .inl F2)), (k2, .inl (cI, 6, .inl G2))]) 0 0 := by
  refine ct_of (cc := cX0_copyFrom) (maxL := 2) (ret := none) (own := RX0) (Qc := QV D (fun (_ : Unit) => True) (fun (u : Unit) => [(h0, .inr (0, [.int (nI n2), .int P2, .ref h1, .ref h2])), (h1, .inl (cI, 50, .inl F2)), (h2, .inl (cI, 6, .inl G2)), (k0, .inr (0, [.int (nI n2), .int P2, .ref k1, .ref k2])), (k1, .inl (cI, 50, .inl F2)), (k2, .inl (cI, 6, .inl G2))])) (by decide) rfl rfl (Nat.le_of_ble_eq_true rfl) ?_
  intro pM eM sM mM below meth cM AM ls H locs hx hb hr hts hown hlocks hml hin hK hP hD hS hA hSt hl
  have hl : lv_has ls 2 [(0, .ref h0), (1, .ref k0)] := hl
  refine lv_aload_n hx hb dX0_copyFrom_0 rfl (lv_at hl 0 rfl) ?_
  refine lv_aload_n hx hb dX0_copyFrom_1 rfl (lv_at hl 1 rfl) ?_
  refine va_get (D := D) (ci := 0) (v := .int (nI n2)) (C := RX0) (T := TX0) (N := 4) hx hb hts in_X0_copyFrom_0 hown hK hP 3 rfl rfl 0 (by decide) (hts (.fieldLink RX0 9 "HoseSpans$Line" "spans" "I") (List.mem_of_getElem? (i := 1) (by decide +kernel))) (fun _ h9 => h9) rfl dX0_copyFrom_2 ?_
  refine va_put (D := D) (ci := 0) (v := .int (nI n2)) (ty := .int) (C := RX0) (T := TX0) (N := 4) hx hb hts in_X0_copyFrom_0 tyX0 tyX0_ok nmX0 hown hK hP hD hS 0 rfl rfl 0 (by decide) (hts (.fieldLink RX0 9 "HoseSpans$Line" "spans" "I") (List.mem_of_getElem? (i := 1) (by decide +kernel))) (fun _ h9 => h9) rfl (by decide +kernel) rfl rfl (Nat.le_of_ble_eq_true rfl) dX0_copyFrom_5 (fun H locs hP hD hS => ?_)
  have hP : va_P D vwCl [(h0, .inr (0, [.int (nI n2), .int P, .ref h1, .ref h2])), (h1, .inl (cI, 50, .inl F)), (h2, .inl (cI, 6, .inl G)), (k0, .inr (0, [.int (nI n2), .int P2, .ref k1, .ref k2])), (k1, .inl (cI, 50, .inl F2)), (k2, .inl (cI, 6, .inl G2))] H := hP
  have hD : va_D AM [(h0, .inr (0, [.int (nI n2), .int P, .ref h1, .ref h2])), (h1, .inl (cI, 50, .inl F)), (h2, .inl (cI, 6, .inl G)), (k0, .inr (0, [.int (nI n2), .int P2, .ref k1, .ref k2])), (k1, .inl (cI, 50, .inl F2)), (k2, .inl (cI, 6, .inl G2))] := hD
  refine lv_aload_n hx hb dX0_copyFrom_8 rfl (lv_at hl 0 rfl) ?_
  refine lv_aload_n hx hb dX0_copyFrom_9 rfl (lv_at hl 1 rfl) ?_
  refine va_get (D := D) (ci := 0) (v := .int P2) (C := RX0) (T := TX0) (N := 4) hx hb hts in_X0_copyFrom_0 hown hK hP 3 rfl rfl 1 (by decide) (hts (.fieldLink RX0 15 "HoseSpans$Line" "pumps" "I") (List.mem_of_getElem? (i := 2) (by decide +kernel))) (fun _ h9 => h9) rfl dX0_copyFrom_10 ?_
  refine va_put (D := D) (ci := 0) (v := .int P2) (ty := .int) (C := RX0) (T := TX0) (N := 4) hx hb hts in_X0_copyFrom_0 tyX0 tyX0_ok nmX0 hown hK hP hD hS 0 rfl rfl 1 (by decide) (hts (.fieldLink RX0 15 "HoseSpans$Line" "pumps" "I") (List.mem_of_getElem? (i := 2) (by decide +kernel))) (fun _ h9 => h9) rfl (by decide +kernel) rfl rfl (Nat.le_of_ble_eq_true rfl) dX0_copyFrom_13 (fun H locs hP hD hS => ?_)
  have hP : va_P D vwCl [(h0, .inr (0, [.int (nI n2), .int P2, .ref h1, .ref h2])), (h1, .inl (cI, 50, .inl F)), (h2, .inl (cI, 6, .inl G)), (k0, .inr (0, [.int (nI n2), .int P2, .ref k1, .ref k2])), (k1, .inl (cI, 50, .inl F2)), (k2, .inl (cI, 6, .inl G2))] H := hP
  have hD : va_D AM [(h0, .inr (0, [.int (nI n2), .int P2, .ref h1, .ref h2])), (h1, .inl (cI, 50, .inl F)), (h2, .inl (cI, 6, .inl G)), (k0, .inr (0, [.int (nI n2), .int P2, .ref k1, .ref k2])), (k1, .inl (cI, 50, .inl F2)), (k2, .inl (cI, 6, .inl G2))] := hD
  refine lv_aload_n hx hb dX0_copyFrom_16 rfl (lv_at hl 1 rfl) ?_
  refine va_get (D := D) (ci := 0) (v := .ref k1) (C := RX0) (T := TX0) (N := 4) hx hb hts in_X0_copyFrom_0 hown hK hP 3 rfl rfl 2 (by decide) (hts (.fieldLink RX0 18 "HoseSpans$Line" "facts" "[I") (List.mem_of_getElem? (i := 3) (by decide +kernel))) (fun _ h9 => h9) rfl dX0_copyFrom_17 ?_
  refine lv_iconst (v := 0) hx hb dX0_copyFrom_20 (by decide) ?_
  refine lv_aload_n hx hb dX0_copyFrom_21 rfl (lv_at hl 0 rfl) ?_
  refine va_get (D := D) (ci := 0) (v := .ref h1) (C := RX0) (T := TX0) (N := 4) hx hb hts in_X0_copyFrom_0 hown hK hP 0 rfl rfl 2 (by decide) (hts (.fieldLink RX0 18 "HoseSpans$Line" "facts" "[I") (List.mem_of_getElem? (i := 3) (by decide +kernel))) (fun _ h9 => h9) rfl dX0_copyFrom_22 ?_
  refine lv_iconst (v := 0) hx hb dX0_copyFrom_25 (by decide) ?_
  refine lv_bipush (v := 50) hx hb dX0_copyFrom_26 (by decide) ?_
  refine va_copyi hx hb (by rw [hml]; exact hl.1.symm) hown (hts (.methodLink RX0 28 arraycopyName) (List.mem_of_getElem? (i := 4) (by decide +kernel))) (hts (.native arraycopyName) (List.mem_of_getElem? (i := 5) (by decide +kernel))) (hts (.static arraycopyName) (List.mem_of_getElem? (i := 6) (by decide +kernel))) (hts (.initialized RJ10) (List.mem_of_getElem? (i := 7) (by decide +kernel))) hK hP hD hS 4 1 0 0 rfl rfl rfl rfl rfl (by decide) (by decide) (by decide) (by decide) (by decide) (fun _ _ => rfl) (Nat.le_of_ble_eq_true rfl) (Nat.le_of_ble_eq_true rfl) dX0_copyFrom_28 (fun H locs hP hD hS => ?_)
  have hP : va_P D vwCl [(h0, .inr (0, [.int (nI n2), .int P2, .ref h1, .ref h2])), (h1, .inl (cI, 50, .inl (va_cpy F2 F 0 0 50))), (h2, .inl (cI, 6, .inl G)), (k0, .inr (0, [.int (nI n2), .int P2, .ref k1, .ref k2])), (k1, .inl (cI, 50, .inl F2)), (k2, .inl (cI, 6, .inl G2))] H := hP
  have hD : va_D AM [(h0, .inr (0, [.int (nI n2), .int P2, .ref h1, .ref h2])), (h1, .inl (cI, 50, .inl (va_cpy F2 F 0 0 50))), (h2, .inl (cI, 6, .inl G)), (k0, .inr (0, [.int (nI n2), .int P2, .ref k1, .ref k2])), (k1, .inl (cI, 50, .inl F2)), (k2, .inl (cI, 6, .inl G2))] := hD
  refine lv_aload_n hx hb dX0_copyFrom_31 rfl (lv_at hl 1 rfl) ?_
  refine va_get (D := D) (ci := 0) (v := .ref k2) (C := RX0) (T := TX0) (N := 4) hx hb hts in_X0_copyFrom_0 hown hK hP 3 rfl rfl 3 (by decide) (hts (.fieldLink RX0 22 "HoseSpans$Line" "settings" "[I") (List.mem_of_getElem? (i := 8) (by decide +kernel))) (fun _ h9 => h9) rfl dX0_copyFrom_32 ?_
  refine lv_iconst (v := 0) hx hb dX0_copyFrom_35 (by decide) ?_
  refine lv_aload_n hx hb dX0_copyFrom_36 rfl (lv_at hl 0 rfl) ?_
  refine va_get (D := D) (ci := 0) (v := .ref h2) (C := RX0) (T := TX0) (N := 4) hx hb hts in_X0_copyFrom_0 hown hK hP 0 rfl rfl 3 (by decide) (hts (.fieldLink RX0 22 "HoseSpans$Line" "settings" "[I") (List.mem_of_getElem? (i := 8) (by decide +kernel))) (fun _ h9 => h9) rfl dX0_copyFrom_37 ?_
  refine lv_iconst (v := 0) hx hb dX0_copyFrom_40 (by decide) ?_
  refine lv_bipush (v := 6) hx hb dX0_copyFrom_41 (by decide) ?_
  refine va_copyi hx hb (by rw [hml]; exact hl.1.symm) hown (hts (.methodLink RX0 28 arraycopyName) (List.mem_of_getElem? (i := 4) (by decide +kernel))) (hts (.native arraycopyName) (List.mem_of_getElem? (i := 5) (by decide +kernel))) (hts (.static arraycopyName) (List.mem_of_getElem? (i := 6) (by decide +kernel))) (hts (.initialized RJ10) (List.mem_of_getElem? (i := 7) (by decide +kernel))) hK hP hD hS 5 2 0 0 rfl rfl rfl rfl rfl (by decide) (by decide) (by decide) (by decide) (by decide) (fun _ _ => rfl) (Nat.le_of_ble_eq_true rfl) (Nat.le_of_ble_eq_true rfl) dX0_copyFrom_43 (fun H locs hP hD hS => ?_)
  have hP : va_P D vwCl [(h0, .inr (0, [.int (nI n2), .int P2, .ref h1, .ref h2])), (h1, .inl (cI, 50, .inl (va_cpy F2 F 0 0 50))), (h2, .inl (cI, 6, .inl (va_cpy G2 G 0 0 6))), (k0, .inr (0, [.int (nI n2), .int P2, .ref k1, .ref k2])), (k1, .inl (cI, 50, .inl F2)), (k2, .inl (cI, 6, .inl G2))] H := hP
  have hD : va_D AM [(h0, .inr (0, [.int (nI n2), .int P2, .ref h1, .ref h2])), (h1, .inl (cI, 50, .inl (va_cpy F2 F 0 0 50))), (h2, .inl (cI, 6, .inl (va_cpy G2 G 0 0 6))), (k0, .inr (0, [.int (nI n2), .int P2, .ref k1, .ref k2])), (k1, .inl (cI, 50, .inl F2)), (k2, .inl (cI, 6, .inl G2))] := hD
  obtain ⟨hP, hD⟩ := e_ext 1 F2 hP hD rfl (fun j hj => cpy_all hj)
  obtain ⟨hP, hD⟩ := e_ext 2 G2 hP hD rfl (fun j hj => cpy_all hj)
  have hP : va_P D vwCl [(h0, .inr (0, [.int (nI n2), .int P2, .ref h1, .ref h2])), (h1, .inl (cI, 50, .inl F2)), (h2, .inl (cI, 6, .inl G2)), (k0, .inr (0, [.int (nI n2), .int P2, .ref k1, .ref k2])), (k1, .inl (cI, 50, .inl F2)), (k2, .inl (cI, 6, .inl G2))] H := hP
  have hD : va_D AM [(h0, .inr (0, [.int (nI n2), .int P2, .ref h1, .ref h2])), (h1, .inl (cI, 50, .inl F2)), (h2, .inl (cI, 6, .inl G2)), (k0, .inr (0, [.int (nI n2), .int P2, .ref k1, .ref k2])), (k1, .inl (cI, 50, .inl F2)), (k2, .inl (cI, 6, .inl G2))] := hD
  refine e_v (u := ()) hx hb hr hlocks hP hD hS dX0_copyFrom_46 ?_ ?_
  · rfl
  · trivial
