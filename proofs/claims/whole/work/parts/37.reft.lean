set_option maxHeartbeats 4000000 in
set_option maxRecDepth 100000 in
theorem c_X5_leastOf (l : Launch) (D : va_G) (cI cB cO : ClassId) (sz : Nat) (s : Int32) (h05 : inR s 0 5 = true) : CI l yX5_leastOf wsX5_leastOf ({ frames := 0, cells := 0, slots := 0, locals := 0 } : Room) D (tyL cI cB cO) [.int s] [] sz (fun (r : Int32) (_ : Unit) => r = kLow (pl s)) (fun (u : Unit) => []) 0 0 := by
  refine ct_of (cc := cX5_leastOf) (maxL := 1) (ret := some .int) (own := RX5) (Qc := QI D (fun (r : Int32) (_ : Unit) => r = kLow (pl s)) (fun (u : Unit) => [])) (by decide) rfl rfl (Nat.le_of_ble_eq_true rfl) ?_
  intro pM eM sM mM below meth cM AM ls H locs hx hb hr hts hown hlocks hml hin hK hP hD hS hA hSt hl
  have hl : lv_has ls 1 [(0, .int s)] := hl
  obtain ⟨j, hj, rfl⟩ := set_in h05
  refine lv_iload_n hx hb dX5_leastOf_0 rfl (lv_at hl 0 rfl) ?_
  refine lv_if_ne (tgt := 8) hx hb dX5_leastOf_1 (by decide) (fun c_1 => ?_) (fun c_1 => ?_)
  · refine lv_iload_n hx hb dX5_leastOf_8 rfl (lv_at hl 0 rfl) ?_
    refine lv_iconst (v := 3) hx hb dX5_leastOf_9 (by decide) ?_
    refine lv_icmp_ne (tgt := 18) hx hb dX5_leastOf_10 (by decide) (fun c_2 => ?_) (fun c_2 => ?_)
    · refine lv_iconst (v := 0) hx hb dX5_leastOf_18 (by decide) ?_
      refine e_i (u := ()) hx hb hr hlocks hP hD hS dX5_leastOf_19 ?_ ?_
      · rfl
      · rw [pl_nI (show j < 2147483648 by omega)]; first | exact low_0 hj (by assumption) | exact low_3 hj (by assumption) | exact low_no hj (by assumption) (by assumption)
    · refine lv_bipush (v := 20) hx hb dX5_leastOf_13 (by decide) ?_
      refine lv_goto (tgt := 19) hx hb dX5_leastOf_15 (by decide) ?_
      refine e_i (u := ()) hx hb hr hlocks hP hD hS dX5_leastOf_19 ?_ ?_
      · rfl
      · rw [pl_nI (show j < 2147483648 by omega)]; first | exact low_0 hj (by assumption) | exact low_3 hj (by assumption) | exact low_no hj (by assumption) (by assumption)
  · refine lv_iconst (v := 1) hx hb dX5_leastOf_4 (by decide) ?_
    refine lv_goto (tgt := 19) hx hb dX5_leastOf_5 (by decide) ?_
    refine e_i (u := ()) hx hb hr hlocks hP hD hS dX5_leastOf_19 ?_ ?_
    · rfl
    · rw [pl_nI (show j < 2147483648 by omega)]; first | exact low_0 hj (by assumption) | exact low_3 hj (by assumption) | exact low_no hj (by assumption) (by assumption)
set_option maxHeartbeats 4000000 in
set_option maxRecDepth 100000 in
theorem c_X5_mostOf (l : Launch) (D : va_G) (cI cB cO : ClassId) (sz : Nat) (s : Int32) (h05 : inR s 0 5 = true) : CI l yX5_mostOf wsX5_mostOf ({ frames := 0, cells := 0, slots := 0, locals := 0 } : Room) D (tyL cI cB cO) [.int s] [] sz (fun (r : Int32) (_ : Unit) => r = kHigh (pl s)) (fun (u : Unit) => []) 0 0 := by
  refine ct_of (cc := cX5_mostOf) (maxL := 1) (ret := some .int) (own := RX5) (Qc := QI D (fun (r : Int32) (_ : Unit) => r = kHigh (pl s)) (fun (u : Unit) => [])) (by decide) rfl rfl (Nat.le_of_ble_eq_true rfl) ?_
  intro pM eM sM mM below meth cM AM ls H locs hx hb hr hts hown hlocks hml hin hK hP hD hS hA hSt hl
  have hl : lv_has ls 1 [(0, .int s)] := hl
  obtain ⟨j, hj, rfl⟩ := set_in h05
  refine lv_iload_n hx hb dX5_mostOf_0 rfl (lv_at hl 0 rfl) ?_
  refine lv_if_ne (tgt := 9) hx hb dX5_mostOf_1 (by decide) (fun c_1 => ?_) (fun c_1 => ?_)
  · refine lv_iload_n hx hb dX5_mostOf_9 rfl (lv_at hl 0 rfl) ?_
    refine lv_iconst (v := 3) hx hb dX5_mostOf_10 (by decide) ?_
    refine lv_icmp_ne (tgt := 20) hx hb dX5_mostOf_11 (by decide) (fun c_2 => ?_) (fun c_2 => ?_)
    · refine lv_iload_n hx hb dX5_mostOf_20 rfl (lv_at hl 0 rfl) ?_
      refine lv_iconst (v := 4) hx hb dX5_mostOf_21 (by decide) ?_
      refine lv_icmp_ne (tgt := 30) hx hb dX5_mostOf_22 (by decide) (fun c_3 => ?_) (fun c_3 => ?_)
      · refine lv_iload_n hx hb dX5_mostOf_30 rfl (lv_at hl 0 rfl) ?_
        refine lv_iconst (v := 5) hx hb dX5_mostOf_31 (by decide) ?_
        refine lv_icmp_ne (tgt := 40) hx hb dX5_mostOf_32 (by decide) (fun c_4 => ?_) (fun c_4 => ?_)
        · refine lv_bipush (v := 100) hx hb dX5_mostOf_40 (by decide) ?_
          refine e_i (u := ()) hx hb hr hlocks hP hD hS dX5_mostOf_42 ?_ ?_
          · rfl
          · rw [pl_nI (show j < 2147483648 by omega)]; first | exact high_0 hj (by assumption) | exact high_3 hj (by assumption) | exact high_4 hj (by assumption) | exact high_5 hj (by assumption) | exact high_no hj (by assumption) (by assumption) (by assumption) (by assumption)
        · refine lv_bipush (v := 99) hx hb dX5_mostOf_35 (by decide) ?_
          refine lv_goto (tgt := 42) hx hb dX5_mostOf_37 (by decide) ?_
          refine e_i (u := ()) hx hb hr hlocks hP hD hS dX5_mostOf_42 ?_ ?_
          · rfl
          · rw [pl_nI (show j < 2147483648 by omega)]; first | exact high_0 hj (by assumption) | exact high_3 hj (by assumption) | exact high_4 hj (by assumption) | exact high_5 hj (by assumption) | exact high_no hj (by assumption) (by assumption) (by assumption) (by assumption)
      · refine lv_bipush (v := 20) hx hb dX5_mostOf_25 (by decide) ?_
        refine lv_goto (tgt := 42) hx hb dX5_mostOf_27 (by decide) ?_
        refine e_i (u := ()) hx hb hr hlocks hP hD hS dX5_mostOf_42 ?_ ?_
        · rfl
        · rw [pl_nI (show j < 2147483648 by omega)]; first | exact high_0 hj (by assumption) | exact high_3 hj (by assumption) | exact high_4 hj (by assumption) | exact high_5 hj (by assumption) | exact high_no hj (by assumption) (by assumption) (by assumption) (by assumption)
    · refine lv_sipush (v := 180) hx hb dX5_mostOf_14 (by decide) ?_
      refine lv_goto (tgt := 42) hx hb dX5_mostOf_17 (by decide) ?_
      refine e_i (u := ()) hx hb hr hlocks hP hD hS dX5_mostOf_42 ?_ ?_
      · rfl
      · rw [pl_nI (show j < 2147483648 by omega)]; first | exact high_0 hj (by assumption) | exact high_3 hj (by assumption) | exact high_4 hj (by assumption) | exact high_5 hj (by assumption) | exact high_no hj (by assumption) (by assumption) (by assumption) (by assumption)
  · refine lv_bipush (v := 30) hx hb dX5_mostOf_4 (by decide) ?_
    refine lv_goto (tgt := 42) hx hb dX5_mostOf_6 (by decide) ?_
    refine e_i (u := ()) hx hb hr hlocks hP hD hS dX5_mostOf_42 ?_ ?_
    · rfl
    · rw [pl_nI (show j < 2147483648 by omega)]; first | exact high_0 hj (by assumption) | exact high_3 hj (by assumption) | exact high_4 hj (by assumption) | exact high_5 hj (by assumption) | exact high_no hj (by assumption) (by assumption) (by assumption) (by assumption)
theorem in_X5_say_5 : ∀ w ∈ wsX50, w ∈ wsX5_say := fun _ h => List.mem_cons_of_mem _ (List.mem_append_right _ h)
set_option maxHeartbeats 4000000 in
set_option maxRecDepth 100000 in
theorem c_X5_say (l : Launch) (D : va_G) (cI cB cO : ClassId) (sz : Nat) (m0 g0 g1 g2 g3 g4 g5 g6 g7 g8 ms N ax : Nat) (fa ho la fs : Int32) (sd : Nat → Int32) (x y z t : Int32)  : CV l yX5_say wsX5_say ({ frames := 0, cells := 0, slots := 0, locals := 0 } : Room) D (tyL cI cB cO) [.ref m0, .int x, .int y, .int z, .int t] [(m0, .inr (5, [.ref g0, .ref g1, .ref g2, .int (nI ms), .ref g3, .ref g4, .int (nI N), .int (nI ax), .ref g5, .ref g6, .int fa, .int ho, .int la, .int fs, .ref g7, .ref g8])), (g7, .inl (cI, 4, .inl sd))] sz (fun (_ : Unit) => True) (fun (u : Unit) => [(m0, .inr (5, [.ref g0, .ref g1, .ref g2, .int (nI ms), .ref g3, .ref g4, .int (nI N), .int (nI ax), .ref g5, .ref g6, .int fa, .int ho, .int la, .int fs, .ref g7, .ref g8])), (g7, .inl (cI, 4, .inl (sd4 x y z t)))]) 0 0 := by
  refine ct_of (cc := cX5_say) (maxL := 5) (ret := none) (own := RX5) (Qc := QV D (fun (_ : Unit) => True) (fun (u : Unit) => [(m0, .inr (5, [.ref g0, .ref g1, .ref g2, .int (nI ms), .ref g3, .ref g4, .int (nI N), .int (nI ax), .ref g5, .ref g6, .int fa, .int ho, .int la, .int fs, .ref g7, .ref g8])), (g7, .inl (cI, 4, .inl (sd4 x y z t)))])) (by decide) rfl rfl (Nat.le_of_ble_eq_true rfl) ?_
  intro pM eM sM mM below meth cM AM ls H locs hx hb hr hts hown hlocks hml hin hK hP hD hS hA hSt hl
  have hl : lv_has ls 5 [(0, .ref m0), (1, .int x), (2, .int y), (3, .int z), (4, .int t)] := hl
  refine lv_aload_n hx hb dX5_say_0 rfl (lv_at hl 0 rfl) ?_
  refine va_get (D := D) (ci := 5) (v := .ref g7) (C := RX5) (T := TX5) (N := 16) hx hb hts in_X5_say_5 hown hK hP 0 rfl rfl 14 (by decide) (hts (.fieldLink RX5 31 "HoseSpansModel" "said" "[I") (List.mem_of_getElem? (i := 1) (by decide +kernel))) (fun _ h9 => h9) rfl dX5_say_1 ?_
  refine lv_iconst (v := 0) hx hb dX5_say_4 (by decide) ?_
  refine lv_iload_n hx hb dX5_say_5 rfl (lv_at hl 1 rfl) ?_
  refine va_iast hx hb hK hP hD hS 1 0 rfl rfl (vp_in_nI (n := 0) (by decide) (by decide)) dX5_say_6 (fun H locs hP hD hS => ?_)
  rw [show Int32.toNatClampNeg 0 = 0 from (by decide)] at hP hD
  have hP : va_P D vwCl [(m0, .inr (5, [.ref g0, .ref g1, .ref g2, .int (nI ms), .ref g3, .ref g4, .int (nI N), .int (nI ax), .ref g5, .ref g6, .int fa, .int ho, .int la, .int fs, .ref g7, .ref g8])), (g7, .inl (cI, 4, .inl (upd sd 0 x)))] H := hP
  have hD : va_D AM [(m0, .inr (5, [.ref g0, .ref g1, .ref g2, .int (nI ms), .ref g3, .ref g4, .int (nI N), .int (nI ax), .ref g5, .ref g6, .int fa, .int ho, .int la, .int fs, .ref g7, .ref g8])), (g7, .inl (cI, 4, .inl (upd sd 0 x)))] := hD
  refine lv_aload_n hx hb dX5_say_7 rfl (lv_at hl 0 rfl) ?_
  refine va_get (D := D) (ci := 5) (v := .ref g7) (C := RX5) (T := TX5) (N := 16) hx hb hts in_X5_say_5 hown hK hP 0 rfl rfl 14 (by decide) (hts (.fieldLink RX5 31 "HoseSpansModel" "said" "[I") (List.mem_of_getElem? (i := 1) (by decide +kernel))) (fun _ h9 => h9) rfl dX5_say_8 ?_
  refine lv_iconst (v := 1) hx hb dX5_say_11 (by decide) ?_
  refine lv_iload_n hx hb dX5_say_12 rfl (lv_at hl 2 rfl) ?_
  refine va_iast hx hb hK hP hD hS 1 0 rfl rfl (vp_in_nI (n := 1) (by decide) (by decide)) dX5_say_13 (fun H locs hP hD hS => ?_)
  rw [show Int32.toNatClampNeg 1 = 1 from (by decide)] at hP hD
  have hP : va_P D vwCl [(m0, .inr (5, [.ref g0, .ref g1, .ref g2, .int (nI ms), .ref g3, .ref g4, .int (nI N), .int (nI ax), .ref g5, .ref g6, .int fa, .int ho, .int la, .int fs, .ref g7, .ref g8])), (g7, .inl (cI, 4, .inl (upd (upd sd 0 x) 1 y)))] H := hP
  have hD : va_D AM [(m0, .inr (5, [.ref g0, .ref g1, .ref g2, .int (nI ms), .ref g3, .ref g4, .int (nI N), .int (nI ax), .ref g5, .ref g6, .int fa, .int ho, .int la, .int fs, .ref g7, .ref g8])), (g7, .inl (cI, 4, .inl (upd (upd sd 0 x) 1 y)))] := hD
  refine lv_aload_n hx hb dX5_say_14 rfl (lv_at hl 0 rfl) ?_
  refine va_get (D := D) (ci := 5) (v := .ref g7) (C := RX5) (T := TX5) (N := 16) hx hb hts in_X5_say_5 hown hK hP 0 rfl rfl 14 (by decide) (hts (.fieldLink RX5 31 "HoseSpansModel" "said" "[I") (List.mem_of_getElem? (i := 1) (by decide +kernel))) (fun _ h9 => h9) rfl dX5_say_15 ?_
  refine lv_iconst (v := 2) hx hb dX5_say_18 (by decide) ?_
  refine lv_iload_n hx hb dX5_say_19 rfl (lv_at hl 3 rfl) ?_
  refine va_iast hx hb hK hP hD hS 1 0 rfl rfl (vp_in_nI (n := 2) (by decide) (by decide)) dX5_say_20 (fun H locs hP hD hS => ?_)
  rw [show Int32.toNatClampNeg 2 = 2 from (by decide)] at hP hD
  have hP : va_P D vwCl [(m0, .inr (5, [.ref g0, .ref g1, .ref g2, .int (nI ms), .ref g3, .ref g4, .int (nI N), .int (nI ax), .ref g5, .ref g6, .int fa, .int ho, .int la, .int fs, .ref g7, .ref g8])), (g7, .inl (cI, 4, .inl (upd (upd (upd sd 0 x) 1 y) 2 z)))] H := hP
  have hD : va_D AM [(m0, .inr (5, [.ref g0, .ref g1, .ref g2, .int (nI ms), .ref g3, .ref g4, .int (nI N), .int (nI ax), .ref g5, .ref g6, .int fa, .int ho, .int la, .int fs, .ref g7, .ref g8])), (g7, .inl (cI, 4, .inl (upd (upd (upd sd 0 x) 1 y) 2 z)))] := hD
  refine lv_aload_n hx hb dX5_say_21 rfl (lv_at hl 0 rfl) ?_
  refine va_get (D := D) (ci := 5) (v := .ref g7) (C := RX5) (T := TX5) (N := 16) hx hb hts in_X5_say_5 hown hK hP 0 rfl rfl 14 (by decide) (hts (.fieldLink RX5 31 "HoseSpansModel" "said" "[I") (List.mem_of_getElem? (i := 1) (by decide +kernel))) (fun _ h9 => h9) rfl dX5_say_22 ?_
  refine lv_iconst (v := 3) hx hb dX5_say_25 (by decide) ?_
  refine lv_iload hx hb dX5_say_26 (lv_at hl 4 rfl) ?_
  refine va_iast hx hb hK hP hD hS 1 0 rfl rfl (vp_in_nI (n := 3) (by decide) (by decide)) dX5_say_28 (fun H locs hP hD hS => ?_)
  rw [show Int32.toNatClampNeg 3 = 3 from (by decide)] at hP hD
  have hP : va_P D vwCl [(m0, .inr (5, [.ref g0, .ref g1, .ref g2, .int (nI ms), .ref g3, .ref g4, .int (nI N), .int (nI ax), .ref g5, .ref g6, .int fa, .int ho, .int la, .int fs, .ref g7, .ref g8])), (g7, .inl (cI, 4, .inl (upd (upd (upd (upd sd 0 x) 1 y) 2 z) 3 t)))] H := hP
  have hD : va_D AM [(m0, .inr (5, [.ref g0, .ref g1, .ref g2, .int (nI ms), .ref g3, .ref g4, .int (nI N), .int (nI ax), .ref g5, .ref g6, .int fa, .int ho, .int la, .int fs, .ref g7, .ref g8])), (g7, .inl (cI, 4, .inl (upd (upd (upd (upd sd 0 x) 1 y) 2 z) 3 t)))] := hD
  obtain ⟨hP, hD⟩ := e_ext 1 (sd4 x y z t) hP hD rfl (fun j hj => e_sd4 hj)
  have hP : va_P D vwCl [(m0, .inr (5, [.ref g0, .ref g1, .ref g2, .int (nI ms), .ref g3, .ref g4, .int (nI N), .int (nI ax), .ref g5, .ref g6, .int fa, .int ho, .int la, .int fs, .ref g7, .ref g8])), (g7, .inl (cI, 4, .inl (sd4 x y z t)))] H := hP
  have hD : va_D AM [(m0, .inr (5, [.ref g0, .ref g1, .ref g2, .int (nI ms), .ref g3, .ref g4, .int (nI N), .int (nI ax), .ref g5, .ref g6, .int fa, .int ho, .int la, .int fs, .ref g7, .ref g8])), (g7, .inl (cI, 4, .inl (sd4 x y z t)))] := hD
  refine e_v (u := ()) hx hb hr hlocks hP hD hS dX5_say_29 ?_ ?_
  · rfl
  · trivial
theorem in_X5_barSpan_5 : ∀ w ∈ wsX50, w ∈ wsX5_barSpan := fun _ h => List.mem_cons_of_mem _ (List.mem_append_right _ h)
set_option maxHeartbeats 4000000 in
set_option maxRecDepth 100000 in
theorem c_X5_barSpan (l : Launch) (D : va_G) (cI cB cO : ClassId) (sz : Nat) (m0 g0 g1 g2 g3 g4 g5 g6 g7 g8 ms N ax : Nat) (fa ho la fs : Int32) (n : Nat) (P : Int32) (F G : Nat → Int32) (sd : Nat → Int32) (hn : n ≤ 10) : CI l yX5_barSpan wsX5_barSpan ({ frames := 1, cells := 0, slots := 0, locals := 22 } : Room) D (tyL cI cB cO) [.ref m0] [(m0, .inr (5, [.ref g0, .ref g1, .ref g2, .int (nI ms), .ref g3, .ref g4, .int (nI N), .int (nI ax), .ref g5, .ref g6, .int fa, .int ho, .int la, .int fs, .ref g7, .ref g8])), (g0, .inl (cI, 58, .inl (rowL (n, P, F, G)))), (g7, .inl (cI, 4, .inl sd))] sz (fun (r : Int32) (_ : Unit) => r = bSpan n (sd 0) (sd 1) (sd 2) (sd 3)) (fun (u : Unit) => [(m0, .inr (5, [.ref g0, .ref g1, .ref g2, .int (nI ms), .ref g3, .ref g4, .int (nI N), .int (nI ax), .ref g5, .ref g6, .int fa, .int ho, .int la, .int fs, .ref g7, .ref g8])), (g0, .inl (cI, 58, .inl (rowL (n, P, F, G)))), (g7, .inl (cI, 4, .inl sd))]) 0 0 := by
  refine ct_of (cc := cX5_barSpan) (maxL := 2) (ret := some .int) (own := RX5) (Qc := QI D (fun (r : Int32) (_ : Unit) => r = bSpan n (sd 0) (sd 1) (sd 2) (sd 3)) (fun (u : Unit) => [(m0, .inr (5, [.ref g0, .ref g1, .ref g2, .int (nI ms), .ref g3, .ref g4, .int (nI N), .int (nI ax), .ref g5, .ref g6, .int fa, .int ho, .int la, .int fs, .ref g7, .ref g8])), (g0, .inl (cI, 58, .inl (rowL (n, P, F, G)))), (g7, .inl (cI, 4, .inl sd))])) (by decide) rfl rfl (Nat.le_of_ble_eq_true rfl) ?_
  intro pM eM sM mM below meth cM AM ls H locs hx hb hr hts hown hlocks hml hin hK hP hD hS hA hSt hl
  have hl : lv_has ls 2 [(0, .ref m0)] := hl
  have jn_1 : ∀ (H : Heap) (locs : List Loc), va_P D vwCl [(m0, .inr (5, [.ref g0, .ref g1, .ref g2, .int (nI ms), .ref g3, .ref g4, .int (nI N), .int (nI ax), .ref g5, .ref g6, .int fa, .int ho, .int la, .int fs, .ref g7, .ref g8])), (g0, .inl (cI, 58, .inl (rowL (n, P, F, G)))), (g7, .inl (cI, 4, .inl sd))] H → va_D AM [(m0, .inr (5, [.ref g0, .ref g1, .ref g2, .int (nI ms), .ref g3, .ref g4, .int (nI N), .int (nI ax), .ref g5, .ref g6, .int fa, .int ho, .int la, .int fs, .ref g7, .ref g8])), (g0, .inl (cI, 58, .inl (rowL (n, P, F, G)))), (g7, .inl (cI, 4, .inl sd))] → va_S AM sM.heap H locs → ∀ (ls : Array Slot), lv_has ls 2 [(0, .ref m0)] → W pM l eM ({ frames := 1, cells := 0, slots := 0, locals := 22 } : Room) sM mM ([.ref m0] : List Value).toArray below meth cM H locs 0 0 (MQ below (QI D (fun (r : Int32) (_ : Unit) => r = bSpan n (sd 0) (sd 1) (sd 2) (sd 3)) (fun (u : Unit) => [(m0, .inr (5, [.ref g0, .ref g1, .ref g2, .int (nI ms), .ref g3, .ref g4, .int (nI N), .int (nI ax), .ref g5, .ref g6, .int fa, .int ho, .int la, .int fs, .ref g7, .ref g8])), (g0, .inl (cI, 58, .inl (rowL (n, P, F, G)))), (g7, .inl (cI, 4, .inl sd))]) AM) ([.ref m0] : List Value).toArray sM 0 0 AM) (F0 mM 64 ls [.int (bI (okSpan (sd 0) (sd 1) (sd 2) (sd 3)))]) := by
    intro  H locs hP hD hS ls hl
    refine lv_istore_n (lv' := [(1, .int (bI (okSpan (sd 0) (sd 1) (sd 2) (sd 3)))), (0, .ref m0)]) hx hb dX5_barSpan_64 rfl hl (by decide) rfl (fun ls hl => ?_)
    refine lv_iload_n hx hb dX5_barSpan_65 rfl (lv_at hl 0 rfl) ?_
    refine lv_if_ne (tgt := 74) hx hb dX5_barSpan_66 (by decide) (fun c_2 => ?_) (fun c_2 => ?_)
    · have c_2 := bI_n0.mp c_2
      refine lv_aload_n hx hb dX5_barSpan_74 rfl (lv_at hl 1 rfl) ?_
      refine va_get (D := D) (ci := 5) (v := .ref g0) (C := RX5) (T := TX5) (N := 16) hx hb hts in_X5_barSpan_5 hown hK hP 0 rfl rfl 0 (by decide) (hts (.fieldLink RX5 7 "HoseSpansModel" "now" "[I") (List.mem_of_getElem? (i := 3) (by decide +kernel))) (fun _ h9 => h9) rfl dX5_barSpan_75 ?_
      refine lv_iconst (v := 0) hx hb dX5_barSpan_78 (by decide) ?_
      refine va_iald hx hb hK hP 1 0 rfl rfl (vp_in_nI (n := 0) (by decide) (by decide)) dX5_barSpan_79 ?_
      refine e_n (y := (rowL (n, P, F, G)) 0) (congrArg (rowL (n, P, F, G)) (by decide)) ?_
      refine e_n (y := nI n) rfl ?_
      refine lv_bipush (v := 10) hx hb dX5_barSpan_80 (by decide) ?_
      refine lv_icmp_ne (tgt := 90) hx hb dX5_barSpan_82 (by decide) (fun c_3 => ?_) (fun c_3 => ?_)
      · have c_3 : ¬ n = 10 := fun h => c_3 (by rw [h]; rfl)
        refine lv_iconst (v := 0) hx hb dX5_barSpan_90 (by decide) ?_
        refine e_i (u := ()) hx hb hr hlocks hP hD hS dX5_barSpan_91 ?_ ?_
        · rfl
        · first | exact bSpan_b (by assumption) | exact bSpan_f (by assumption) (by assumption) | exact bSpan_0 (by assumption) (by assumption)
      · have c_3 : n = 10 := (nI_eq (b := 10) (by omega) (by decide)).mp c_3
        refine lv_ldc (v := -1000004) hx hb hown (hts (.constant RX5 99 (-1000004)) (List.mem_of_getElem? (i := 4) (by decide +kernel))) dX5_barSpan_85 ?_
        refine lv_goto (tgt := 91) hx hb dX5_barSpan_87 (by decide) ?_
        refine e_i (u := ()) hx hb hr hlocks hP hD hS dX5_barSpan_91 ?_ ?_
        · rfl
        · first | exact bSpan_b (by assumption) | exact bSpan_f (by assumption) (by assumption) | exact bSpan_0 (by assumption) (by assumption)
    · have c_2 := bI_0.mp c_2
      refine lv_ldc (v := -1000002) hx hb hown (hts (.constant RX5 37 (-1000002)) (List.mem_of_getElem? (i := 2) (by decide +kernel))) dX5_barSpan_69 ?_
      refine lv_goto (tgt := 91) hx hb dX5_barSpan_71 (by decide) ?_
      refine e_i (u := ()) hx hb hr hlocks hP hD hS dX5_barSpan_91 ?_ ?_
      · rfl
      · first | exact bSpan_b (by assumption) | exact bSpan_f (by assumption) (by assumption) | exact bSpan_0 (by assumption) (by assumption)
  refine lv_aload_n hx hb dX5_barSpan_0 rfl (lv_at hl 0 rfl) ?_
  refine va_get (D := D) (ci := 5) (v := .ref g7) (C := RX5) (T := TX5) (N := 16) hx hb hts in_X5_barSpan_5 hown hK hP 0 rfl rfl 14 (by decide) (hts (.fieldLink RX5 31 "HoseSpansModel" "said" "[I") (List.mem_of_getElem? (i := 1) (by decide +kernel))) (fun _ h9 => h9) rfl dX5_barSpan_1 ?_
  refine lv_iconst (v := 0) hx hb dX5_barSpan_4 (by decide) ?_
  refine va_iald hx hb hK hP 2 0 rfl rfl (vp_in_nI (n := 0) (by decide) (by decide)) dX5_barSpan_5 ?_
  refine e_n (y := sd 0) (congrArg sd (by decide)) ?_
  refine lv_iconst (v := 1) hx hb dX5_barSpan_6 (by decide) ?_
  refine lv_bipush (v := 30) hx hb dX5_barSpan_7 (by decide) ?_
  refine k_i (va_runS (As := [.int (sd 0), .int 1, .int 30]) (rest := []) ⟨hx, hb, hml, hown, hts⟩ (c_X5_in l D cI cB cO H.size (sd 0) 1 30 ) (va_cwS 3 hts gX5_barSpan_X5_in rfl rfl rfl (by decide +kernel) ⟨Nat.le_of_ble_eq_true rfl, Nat.le_of_ble_eq_true rfl⟩) (preS_of hK hP hD hS hA hSt [] (by decide) rfl) rfl rfl hl.1 rfl (lv_room (Nat.le_of_ble_eq_true rfl)) dX5_barSpan_9 ⟨Nat.le_of_ble_eq_true rfl, Nat.le_of_ble_eq_true rfl⟩) hP hD hS hA [] [0, 1, 2] [0, 1, 2] [(m0, .inr (5, [.ref g0, .ref g1, .ref g2, .int (nI ms), .ref g3, .ref g4, .int (nI N), .int (nI ax), .ref g5, .ref g6, .int fa, .int ho, .int la, .int fs, .ref g7, .ref g8])), (g0, .inl (cI, 58, .inl (rowL (n, P, F, G)))), (g7, .inl (cI, 4, .inl sd))] (fun (u_4 : Unit) => [(m0, .inr (5, [.ref g0, .ref g1, .ref g2, .int (nI ms), .ref g3, .ref g4, .int (nI N), .int (nI ax), .ref g5, .ref g6, .int fa, .int ho, .int la, .int fs, .ref g7, .ref g8])), (g0, .inl (cI, 58, .inl (rowL (n, P, F, G)))), (g7, .inl (cI, 4, .inl sd))]) rfl rfl (by decide) (by decide) (by decide) (fun _ => rfl) (fun r_4 u_4 H locs q_4 hP hD hS => ?_)
  obtain rfl : r_4 = bI (inR (sd 0) 1 30) := q_4
  refine lv_if_eq (tgt := 63) hx hb dX5_barSpan_12 (by decide) (fun c_5 => ?_) (fun c_5 => ?_)
  · have c_5 := bI_0.mp c_5
    refine lv_iconst (v := 0) hx hb dX5_barSpan_63 (by decide) ?_
    refine e_n (y := bI (okSpan (sd 0) (sd 1) (sd 2) (sd 3))) (by first | exact bI_t (okS_t (by assumption) (by assumption) (by assumption) (by assumption)) | exact bI_f (okS_1 (by assumption)) | exact bI_f (okS_2 (by assumption)) | exact bI_f (okS_3 (by assumption)) | exact bI_f (okS_4 (by assumption))) ?_
    exact jn_1  H locs hP hD hS ls (lv_sub hl [0] rfl)
  · have c_5 := bI_n0.mp c_5
    refine lv_aload_n hx hb dX5_barSpan_15 rfl (lv_at hl 0 rfl) ?_
    refine va_get (D := D) (ci := 5) (v := .ref g7) (C := RX5) (T := TX5) (N := 16) hx hb hts in_X5_barSpan_5 hown hK hP 0 rfl rfl 14 (by decide) (hts (.fieldLink RX5 31 "HoseSpansModel" "said" "[I") (List.mem_of_getElem? (i := 1) (by decide +kernel))) (fun _ h9 => h9) rfl dX5_barSpan_16 ?_
    refine lv_iconst (v := 1) hx hb dX5_barSpan_19 (by decide) ?_
    refine va_iald hx hb hK hP 2 0 rfl rfl (vp_in_nI (n := 1) (by decide) (by decide)) dX5_barSpan_20 ?_
    refine e_n (y := sd 1) (congrArg sd (by decide)) ?_
    refine lv_iconst (v := 0) hx hb dX5_barSpan_21 (by decide) ?_
    refine lv_iconst (v := 3) hx hb dX5_barSpan_22 (by decide) ?_
    refine k_i (va_runS (As := [.int (sd 1), .int 0, .int 3]) (rest := []) ⟨hx, hb, hml, hown, hts⟩ (c_X5_in l D cI cB cO H.size (sd 1) 0 3 ) (va_cwS 3 hts gX5_barSpan_X5_in rfl rfl rfl (by decide +kernel) ⟨Nat.le_of_ble_eq_true rfl, Nat.le_of_ble_eq_true rfl⟩) (preS_of hK hP hD hS hA hSt [] (by decide) rfl) rfl rfl hl.1 rfl (lv_room (Nat.le_of_ble_eq_true rfl)) dX5_barSpan_23 ⟨Nat.le_of_ble_eq_true rfl, Nat.le_of_ble_eq_true rfl⟩) hP hD hS hA [] [0, 1, 2] [0, 1, 2] [(m0, .inr (5, [.ref g0, .ref g1, .ref g2, .int (nI ms), .ref g3, .ref g4, .int (nI N), .int (nI ax), .ref g5, .ref g6, .int fa, .int ho, .int la, .int fs, .ref g7, .ref g8])), (g0, .inl (cI, 58, .inl (rowL (n, P, F, G)))), (g7, .inl (cI, 4, .inl sd))] (fun (u_6 : Unit) => [(m0, .inr (5, [.ref g0, .ref g1, .ref g2, .int (nI ms), .ref g3, .ref g4, .int (nI N), .int (nI ax), .ref g5, .ref g6, .int fa, .int ho, .int la, .int fs, .ref g7, .ref g8])), (g0, .inl (cI, 58, .inl (rowL (n, P, F, G)))), (g7, .inl (cI, 4, .inl sd))]) rfl rfl (by decide) (by decide) (by decide) (fun _ => rfl) (fun r_6 u_6 H locs q_6 hP hD hS => ?_)
    obtain rfl : r_6 = bI (inR (sd 1) 0 3) := q_6
    refine lv_if_eq (tgt := 63) hx hb dX5_barSpan_26 (by decide) (fun c_7 => ?_) (fun c_7 => ?_)
    · have c_7 := bI_0.mp c_7
      refine lv_iconst (v := 0) hx hb dX5_barSpan_63 (by decide) ?_
      refine e_n (y := bI (okSpan (sd 0) (sd 1) (sd 2) (sd 3))) (by first | exact bI_t (okS_t (by assumption) (by assumption) (by assumption) (by assumption)) | exact bI_f (okS_1 (by assumption)) | exact bI_f (okS_2 (by assumption)) | exact bI_f (okS_3 (by assumption)) | exact bI_f (okS_4 (by assumption))) ?_
      exact jn_1  H locs hP hD hS ls (lv_sub hl [0] rfl)
    · have c_7 := bI_n0.mp c_7
      refine lv_aload_n hx hb dX5_barSpan_29 rfl (lv_at hl 0 rfl) ?_
      refine va_get (D := D) (ci := 5) (v := .ref g7) (C := RX5) (T := TX5) (N := 16) hx hb hts in_X5_barSpan_5 hown hK hP 0 rfl rfl 14 (by decide) (hts (.fieldLink RX5 31 "HoseSpansModel" "said" "[I") (List.mem_of_getElem? (i := 1) (by decide +kernel))) (fun _ h9 => h9) rfl dX5_barSpan_30 ?_
      refine lv_iconst (v := 2) hx hb dX5_barSpan_33 (by decide) ?_
      refine va_iald hx hb hK hP 2 0 rfl rfl (vp_in_nI (n := 2) (by decide) (by decide)) dX5_barSpan_34 ?_
      refine e_n (y := sd 2) (congrArg sd (by decide)) ?_
      refine lv_bipush (v := -50) hx hb dX5_barSpan_35 (by decide) ?_
      refine lv_bipush (v := 50) hx hb dX5_barSpan_37 (by decide) ?_
      refine k_i (va_runS (As := [.int (sd 2), .int (-50), .int 50]) (rest := []) ⟨hx, hb, hml, hown, hts⟩ (c_X5_in l D cI cB cO H.size (sd 2) (-50) 50 ) (va_cwS 3 hts gX5_barSpan_X5_in rfl rfl rfl (by decide +kernel) ⟨Nat.le_of_ble_eq_true rfl, Nat.le_of_ble_eq_true rfl⟩) (preS_of hK hP hD hS hA hSt [] (by decide) rfl) rfl rfl hl.1 rfl (lv_room (Nat.le_of_ble_eq_true rfl)) dX5_barSpan_39 ⟨Nat.le_of_ble_eq_true rfl, Nat.le_of_ble_eq_true rfl⟩) hP hD hS hA [] [0, 1, 2] [0, 1, 2] [(m0, .inr (5, [.ref g0, .ref g1, .ref g2, .int (nI ms), .ref g3, .ref g4, .int (nI N), .int (nI ax), .ref g5, .ref g6, .int fa, .int ho, .int la, .int fs, .ref g7, .ref g8])), (g0, .inl (cI, 58, .inl (rowL (n, P, F, G)))), (g7, .inl (cI, 4, .inl sd))] (fun (u_8 : Unit) => [(m0, .inr (5, [.ref g0, .ref g1, .ref g2, .int (nI ms), .ref g3, .ref g4, .int (nI N), .int (nI ax), .ref g5, .ref g6, .int fa, .int ho, .int la, .int fs, .ref g7, .ref g8])), (g0, .inl (cI, 58, .inl (rowL (n, P, F, G)))), (g7, .inl (cI, 4, .inl sd))]) rfl rfl (by decide) (by decide) (by decide) (fun _ => rfl) (fun r_8 u_8 H locs q_8 hP hD hS => ?_)
      obtain rfl : r_8 = bI (inR (sd 2) (-50) 50) := q_8
      refine lv_if_eq (tgt := 63) hx hb dX5_barSpan_42 (by decide) (fun c_9 => ?_) (fun c_9 => ?_)
      · have c_9 := bI_0.mp c_9
        refine lv_iconst (v := 0) hx hb dX5_barSpan_63 (by decide) ?_
        refine e_n (y := bI (okSpan (sd 0) (sd 1) (sd 2) (sd 3))) (by first | exact bI_t (okS_t (by assumption) (by assumption) (by assumption) (by assumption)) | exact bI_f (okS_1 (by assumption)) | exact bI_f (okS_2 (by assumption)) | exact bI_f (okS_3 (by assumption)) | exact bI_f (okS_4 (by assumption))) ?_
        exact jn_1  H locs hP hD hS ls (lv_sub hl [0] rfl)
      · have c_9 := bI_n0.mp c_9
        refine lv_aload_n hx hb dX5_barSpan_45 rfl (lv_at hl 0 rfl) ?_
        refine va_get (D := D) (ci := 5) (v := .ref g7) (C := RX5) (T := TX5) (N := 16) hx hb hts in_X5_barSpan_5 hown hK hP 0 rfl rfl 14 (by decide) (hts (.fieldLink RX5 31 "HoseSpansModel" "said" "[I") (List.mem_of_getElem? (i := 1) (by decide +kernel))) (fun _ h9 => h9) rfl dX5_barSpan_46 ?_
        refine lv_iconst (v := 3) hx hb dX5_barSpan_49 (by decide) ?_
        refine va_iald hx hb hK hP 2 0 rfl rfl (vp_in_nI (n := 3) (by decide) (by decide)) dX5_barSpan_50 ?_
        refine e_n (y := sd 3) (congrArg sd (by decide)) ?_
        refine lv_iconst (v := 0) hx hb dX5_barSpan_51 (by decide) ?_
        refine lv_iconst (v := 1) hx hb dX5_barSpan_52 (by decide) ?_
        refine k_i (va_runS (As := [.int (sd 3), .int 0, .int 1]) (rest := []) ⟨hx, hb, hml, hown, hts⟩ (c_X5_in l D cI cB cO H.size (sd 3) 0 1 ) (va_cwS 3 hts gX5_barSpan_X5_in rfl rfl rfl (by decide +kernel) ⟨Nat.le_of_ble_eq_true rfl, Nat.le_of_ble_eq_true rfl⟩) (preS_of hK hP hD hS hA hSt [] (by decide) rfl) rfl rfl hl.1 rfl (lv_room (Nat.le_of_ble_eq_true rfl)) dX5_barSpan_53 ⟨Nat.le_of_ble_eq_true rfl, Nat.le_of_ble_eq_true rfl⟩) hP hD hS hA [] [0, 1, 2] [0, 1, 2] [(m0, .inr (5, [.ref g0, .ref g1, .ref g2, .int (nI ms), .ref g3, .ref g4, .int (nI N), .int (nI ax), .ref g5, .ref g6, .int fa, .int ho, .int la, .int fs, .ref g7, .ref g8])), (g0, .inl (cI, 58, .inl (rowL (n, P, F, G)))), (g7, .inl (cI, 4, .inl sd))] (fun (u_10 : Unit) => [(m0, .inr (5, [.ref g0, .ref g1, .ref g2, .int (nI ms), .ref g3, .ref g4, .int (nI N), .int (nI ax), .ref g5, .ref g6, .int fa, .int ho, .int la, .int fs, .ref g7, .ref g8])), (g0, .inl (cI, 58, .inl (rowL (n, P, F, G)))), (g7, .inl (cI, 4, .inl sd))]) rfl rfl (by decide) (by decide) (by decide) (fun _ => rfl) (fun r_10 u_10 H locs q_10 hP hD hS => ?_)
        obtain rfl : r_10 = bI (inR (sd 3) 0 1) := q_10
        refine lv_if_eq (tgt := 63) hx hb dX5_barSpan_56 (by decide) (fun c_11 => ?_) (fun c_11 => ?_)
        · have c_11 := bI_0.mp c_11
          refine lv_iconst (v := 0) hx hb dX5_barSpan_63 (by decide) ?_
          refine e_n (y := bI (okSpan (sd 0) (sd 1) (sd 2) (sd 3))) (by first | exact bI_t (okS_t (by assumption) (by assumption) (by assumption) (by assumption)) | exact bI_f (okS_1 (by assumption)) | exact bI_f (okS_2 (by assumption)) | exact bI_f (okS_3 (by assumption)) | exact bI_f (okS_4 (by assumption))) ?_
          exact jn_1  H locs hP hD hS ls (lv_sub hl [0] rfl)
        · have c_11 := bI_n0.mp c_11
          refine lv_iconst (v := 1) hx hb dX5_barSpan_59 (by decide) ?_
          refine lv_goto (tgt := 64) hx hb dX5_barSpan_60 (by decide) ?_
          refine e_n (y := bI (okSpan (sd 0) (sd 1) (sd 2) (sd 3))) (by first | exact bI_t (okS_t (by assumption) (by assumption) (by assumption) (by assumption)) | exact bI_f (okS_1 (by assumption)) | exact bI_f (okS_2 (by assumption)) | exact bI_f (okS_3 (by assumption)) | exact bI_f (okS_4 (by assumption))) ?_
          exact jn_1  H locs hP hD hS ls (lv_sub hl [0] rfl)
theorem in_X5_barMend_5 : ∀ w ∈ wsX50, w ∈ wsX5_barMend := fun _ h => List.mem_cons_of_mem _ (List.mem_append_right _ h)
set_option maxHeartbeats 4000000 in
set_option maxRecDepth 100000 in
theorem c_X5_barMend (l : Launch) (D : va_G) (cI cB cO : ClassId) (sz : Nat) (m0 g0 g1 g2 g3 g4 g5 g6 g7 g8 ms N ax : Nat) (fa ho la fs : Int32) (n : Nat) (P : Int32) (F G : Nat → Int32) (sd : Nat → Int32) (hn : n ≤ 10) : CI l yX5_barMend wsX5_barMend ({ frames := 2, cells := 0, slots := 0, locals := 43 } : Room) D (tyL cI cB cO) [.ref m0] [(m0, .inr (5, [.ref g0, .ref g1, .ref g2, .int (nI ms), .ref g3, .ref g4, .int (nI N), .int (nI ax), .ref g5, .ref g6, .int fa, .int ho, .int la, .int fs, .ref g7, .ref g8])), (g0, .inl (cI, 58, .inl (rowL (n, P, F, G)))), (g7, .inl (cI, 4, .inl sd))] sz (fun (r : Int32) (_ : Unit) => r = bMend (n, P, F, G) (sd 0)) (fun (u : Unit) => [(m0, .inr (5, [.ref g0, .ref g1, .ref g2, .int (nI ms), .ref g3, .ref g4, .int (nI N), .int (nI ax), .ref g5, .ref g6, .int fa, .int ho, .int la, .int fs, .ref g7, .ref g8])), (g0, .inl (cI, 58, .inl (rowL (n, P, F, G)))), (g7, .inl (cI, 4, .inl sd))]) 0 0 := by
  refine ct_of (cc := cX5_barMend) (maxL := 2) (ret := some .int) (own := RX5) (Qc := QI D (fun (r : Int32) (_ : Unit) => r = bMend (n, P, F, G) (sd 0)) (fun (u : Unit) => [(m0, .inr (5, [.ref g0, .ref g1, .ref g2, .int (nI ms), .ref g3, .ref g4, .int (nI N), .int (nI ax), .ref g5, .ref g6, .int fa, .int ho, .int la, .int fs, .ref g7, .ref g8])), (g0, .inl (cI, 58, .inl (rowL (n, P, F, G)))), (g7, .inl (cI, 4, .inl sd))])) (by decide) rfl rfl (Nat.le_of_ble_eq_true rfl) ?_
  intro pM eM sM mM below meth cM AM ls H locs hx hb hr hts hown hlocks hml hin hK hP hD hS hA hSt hl
  have hl : lv_has ls 2 [(0, .ref m0)] := hl
  refine lv_aload_n hx hb dX5_barMend_0 rfl (lv_at hl 0 rfl) ?_
  refine va_get (D := D) (ci := 5) (v := .ref g7) (C := RX5) (T := TX5) (N := 16) hx hb hts in_X5_barMend_5 hown hK hP 0 rfl rfl 14 (by decide) (hts (.fieldLink RX5 31 "HoseSpansModel" "said" "[I") (List.mem_of_getElem? (i := 1) (by decide +kernel))) (fun _ h9 => h9) rfl dX5_barMend_1 ?_
  refine lv_iconst (v := 0) hx hb dX5_barMend_4 (by decide) ?_
  refine va_iald hx hb hK hP 2 0 rfl rfl (vp_in_nI (n := 0) (by decide) (by decide)) dX5_barMend_5 ?_
  refine e_n (y := sd 0) (congrArg sd (by decide)) ?_
  refine lv_istore_n (lv' := [(1, .int (sd 0)), (0, .ref m0)]) hx hb dX5_barMend_6 rfl hl (by decide) rfl (fun ls hl => ?_)
  refine lv_aload_n hx hb dX5_barMend_7 rfl (lv_at hl 1 rfl) ?_
  refine lv_iload_n hx hb dX5_barMend_8 rfl (lv_at hl 0 rfl) ?_
  refine k_i (va_runV (As := [.int (sd 0)]) (rest := []) ⟨hx, hb, hml, hown, hts⟩ (c_X5_isSpan l D cI cB cO H.size m0 g0 g1 g2 g3 g4 g5 g6 g7 g8 ms N ax fa ho la fs n P F G (sd 0) ) (cwV 1 hts gX5_barMend_X5_isSpan rfl rfl rfl (by decide +kernel) ⟨Nat.le_of_ble_eq_true rfl, Nat.le_of_ble_eq_true rfl⟩) (preV_of hK hP hD hS hA hSt [0, 1] (by decide) rfl 0 (ci := 5) rfl rfl) rfl rfl hl.1 rfl (lv_room (Nat.le_of_ble_eq_true rfl)) dX5_barMend_9 ⟨Nat.le_of_ble_eq_true rfl, Nat.le_of_ble_eq_true rfl⟩) hP hD hS hA [0, 1] [2] [1, 2, 0] [(g7, .inl (cI, 4, .inl sd))] (fun (u_1 : Unit) => [(m0, .inr (5, [.ref g0, .ref g1, .ref g2, .int (nI ms), .ref g3, .ref g4, .int (nI N), .int (nI ax), .ref g5, .ref g6, .int fa, .int ho, .int la, .int fs, .ref g7, .ref g8])), (g0, .inl (cI, 58, .inl (rowL (n, P, F, G)))), (g7, .inl (cI, 4, .inl sd))]) rfl rfl (by decide) (by decide) (by decide) (fun _ => rfl) (fun r_1 u_1 H locs q_1 hP hD hS => ?_)
  obtain rfl : r_1 = bI (inR (sd 0) 0 (nI n - 1)) := q_1
  refine lv_if_ne (tgt := 18) hx hb dX5_barMend_12 (by decide) (fun c_2 => ?_) (fun c_2 => ?_)
  · have c_2 := bI_n0.mp c_2
    have hsp := c_2
    obtain ⟨j, hj, e0⟩ := span_in hn c_2
    rw [show sd 0 = nI j from e0] at hl
    have hl : lv_has ls 2 [(1, .int (nI j)), (0, .ref m0)] := hl
    refine lv_aload_n hx hb dX5_barMend_18 rfl (lv_at hl 1 rfl) ?_
    refine lv_iload_n hx hb dX5_barMend_19 rfl (lv_at hl 0 rfl) ?_
    refine lv_iconst (v := 4) hx hb dX5_barMend_20 (by decide) ?_
    refine k_i (va_runV (As := [.int (nI j), .int (nI 4)]) (rest := []) ⟨hx, hb, hml, hown, hts⟩ (c_X5_ofSpan l D cI cB cO H.size m0 g0 g1 g2 g3 g4 g5 g6 g7 g8 ms N ax fa ho la fs n P F G j 4 (by first | assumption | omega)) (cwV 2 hts gX5_barMend_X5_ofSpan rfl rfl rfl (by decide +kernel) ⟨Nat.le_of_ble_eq_true rfl, Nat.le_of_ble_eq_true rfl⟩) (preV_of hK hP hD hS hA hSt [0, 1] (by decide) rfl 0 (ci := 5) rfl rfl) rfl rfl hl.1 rfl (lv_room (Nat.le_of_ble_eq_true rfl)) dX5_barMend_21 ⟨Nat.le_of_ble_eq_true rfl, Nat.le_of_ble_eq_true rfl⟩) hP hD hS hA [0, 1] [2] [1, 2, 0] [(g7, .inl (cI, 4, .inl sd))] (fun (u_3 : Unit) => [(m0, .inr (5, [.ref g0, .ref g1, .ref g2, .int (nI ms), .ref g3, .ref g4, .int (nI N), .int (nI ax), .ref g5, .ref g6, .int fa, .int ho, .int la, .int fs, .ref g7, .ref g8])), (g0, .inl (cI, 58, .inl (rowL (n, P, F, G)))), (g7, .inl (cI, 4, .inl sd))]) rfl rfl (by decide) (by decide) (by decide) (fun _ => rfl) (fun r_3 u_3 H locs q_3 hP hD hS => ?_)
    obtain rfl : r_3 = F (j * 5 + 4) := q_3
    refine lv_if_eq (tgt := 42) hx hb dX5_barMend_24 (by decide) (fun c_4 => ?_) (fun c_4 => ?_)
    · have hfz := c_4
      refine lv_ldc (v := -1000003) hx hb hown (hts (.constant RX5 106 (-1000003)) (List.mem_of_getElem? (i := 4) (by decide +kernel))) dX5_barMend_42 ?_
      refine lv_goto (tgt := 48) hx hb dX5_barMend_44 (by decide) ?_
      refine e_i (u := ()) hx hb hr hlocks hP hD hS dX5_barMend_48 ?_ ?_
      · rfl
      · first | exact bMend_n hsp (by rw [e0]; exact noM_1 (by omega) hfz) | exact bMend_n hsp (by rw [e0]; exact noM_2 (by omega) hlt)
    · have hfz := c_4
      refine lv_aload_n hx hb dX5_barMend_27 rfl (lv_at hl 1 rfl) ?_
      refine va_get (D := D) (ci := 5) (v := .ref g0) (C := RX5) (T := TX5) (N := 16) hx hb hts in_X5_barMend_5 hown hK hP 0 rfl rfl 0 (by decide) (hts (.fieldLink RX5 7 "HoseSpansModel" "now" "[I") (List.mem_of_getElem? (i := 3) (by decide +kernel))) (fun _ h9 => h9) rfl dX5_barMend_28 ?_
      refine lv_bipush (v := 7) hx hb dX5_barMend_31 (by decide) ?_
      refine va_iald hx hb hK hP 1 0 rfl rfl (vp_in_nI (n := 7) (by decide) (by decide)) dX5_barMend_33 ?_
      refine e_n (y := (rowL (n, P, F, G)) 7) (congrArg (rowL (n, P, F, G)) (by decide)) ?_
      refine e_n (y := G 5) rfl ?_
      refine lv_aload_n hx hb dX5_barMend_34 rfl (lv_at hl 1 rfl) ?_
      refine lv_iload_n hx hb dX5_barMend_35 rfl (lv_at hl 0 rfl) ?_
      refine k_i (va_runV (As := [.int (nI j)]) (rest := [.int (G 5)]) ⟨hx, hb, hml, hown, hts⟩ (c_X5_lengthsOf l D cI cB cO H.size m0 g0 g1 g2 g3 g4 g5 g6 g7 g8 ms N ax fa ho la fs n P F G j (by first | assumption | omega)) (cwV 1 hts gX5_barMend_X5_lengthsOf rfl rfl rfl (by decide +kernel) ⟨Nat.le_of_ble_eq_true rfl, Nat.le_of_ble_eq_true rfl⟩) (preV_of hK hP hD hS hA hSt [0, 1] (by decide) rfl 0 (ci := 5) rfl rfl) rfl rfl hl.1 rfl (lv_room (Nat.le_of_ble_eq_true rfl)) dX5_barMend_36 ⟨Nat.le_of_ble_eq_true rfl, Nat.le_of_ble_eq_true rfl⟩) hP hD hS hA [0, 1] [2] [1, 2, 0] [(g7, .inl (cI, 4, .inl sd))] (fun (u_5 : Unit) => [(m0, .inr (5, [.ref g0, .ref g1, .ref g2, .int (nI ms), .ref g3, .ref g4, .int (nI N), .int (nI ax), .ref g5, .ref g6, .int fa, .int ho, .int la, .int fs, .ref g7, .ref g8])), (g0, .inl (cI, 58, .inl (rowL (n, P, F, G)))), (g7, .inl (cI, 4, .inl sd))]) rfl rfl (by decide) (by decide) (by decide) (fun _ => rfl) (fun r_5 u_5 H locs q_5 hP hD hS => ?_)
      obtain rfl : r_5 = hosesF F j := q_5
      refine lv_icmp_ge (tgt := 47) hx hb dX5_barMend_39 (by decide) (fun c_6 => ?_) (fun c_6 => ?_)
      · have c_6 := Int32.not_lt.mpr c_6
        have hlt := c_6
        refine lv_iconst (v := 0) hx hb dX5_barMend_47 (by decide) ?_
        refine e_i (u := ()) hx hb hr hlocks hP hD hS dX5_barMend_48 ?_ ?_
        · rfl
        · exact bMend_0 hsp (by rw [e0]; exact noM_0 (by omega) hfz hlt)
      · have c_6 := Int32.not_le.mp c_6
        have hlt := c_6
        refine lv_ldc (v := -1000003) hx hb hown (hts (.constant RX5 106 (-1000003)) (List.mem_of_getElem? (i := 4) (by decide +kernel))) dX5_barMend_42 ?_
        refine lv_goto (tgt := 48) hx hb dX5_barMend_44 (by decide) ?_
        refine e_i (u := ()) hx hb hr hlocks hP hD hS dX5_barMend_48 ?_ ?_
        · rfl
        · first | exact bMend_n hsp (by rw [e0]; exact noM_1 (by omega) hfz) | exact bMend_n hsp (by rw [e0]; exact noM_2 (by omega) hlt)
  · have c_2 := bI_0.mp c_2
    have hsp := c_2
    refine lv_ldc (v := -1000002) hx hb hown (hts (.constant RX5 37 (-1000002)) (List.mem_of_getElem? (i := 2) (by decide +kernel))) dX5_barMend_15 ?_
    refine e_i (u := ()) hx hb hr hlocks hP hD hS dX5_barMend_17 ?_ ?_
    · rfl
    · exact bMend_f hsp
theorem in_X5_barOf_5 : ∀ w ∈ wsX50, w ∈ wsX5_barOf := fun _ h => List.mem_cons_of_mem _ (List.mem_append_right _ h)
set_option maxHeartbeats 4000000 in
set_option maxRecDepth 100000 in
theorem c_X5_barOf (l : Launch) (D : va_G) (cI cB cO : ClassId) (sz : Nat) (m0 g0 g1 g2 g3 g4 g5 g6 g7 g8 ms N ax : Nat) (fa ho la fs : Int32) (n : Nat) (P : Int32) (F G : Nat → Int32) (sd : Nat → Int32) (c : Int32) (hn : n ≤ 10) : CI l yX5_barOf wsX5_barOf ({ frames := 3, cells := 0, slots := 0, locals := 64 } : Room) D (tyL cI cB cO) [.ref m0, .int c] [(m0, .inr (5, [.ref g0, .ref g1, .ref g2, .int (nI ms), .ref g3, .ref g4, .int (nI N), .int (nI ax), .ref g5, .ref g6, .int fa, .int ho, .int la, .int fs, .ref g7, .ref g8])), (g0, .inl (cI, 58, .inl (rowL (n, P, F, G)))), (g7, .inl (cI, 4, .inl sd))] sz (fun (r : Int32) (_ : Unit) => r = barF (n, P, F, G) c sd) (fun (u : Unit) => [(m0, .inr (5, [.ref g0, .ref g1, .ref g2, .int (nI ms), .ref g3, .ref g4, .int (nI N), .int (nI ax), .ref g5, .ref g6, .int fa, .int ho, .int la, .int fs, .ref g7, .ref g8])), (g0, .inl (cI, 58, .inl (rowL (n, P, F, G)))), (g7, .inl (cI, 4, .inl sd))]) 0 0 := by
  refine ct_of (cc := cX5_barOf) (maxL := 2) (ret := some .int) (own := RX5) (Qc := QI D (fun (r : Int32) (_ : Unit) => r = barF (n, P, F, G) c sd) (fun (u : Unit) => [(m0, .inr (5, [.ref g0, .ref g1, .ref g2, .int (nI ms), .ref g3, .ref g4, .int (nI N), .int (nI ax), .ref g5, .ref g6, .int fa, .int ho, .int la, .int fs, .ref g7, .ref g8])), (g0, .inl (cI, 58, .inl (rowL (n, P, F, G)))), (g7, .inl (cI, 4, .inl sd))])) (by decide) rfl rfl (Nat.le_of_ble_eq_true rfl) ?_
  intro pM eM sM mM below meth cM AM ls H locs hx hb hr hts hown hlocks hml hin hK hP hD hS hA hSt hl
  have hl : lv_has ls 2 [(0, .ref m0), (1, .int c)] := hl
  refine lv_iload_n hx hb dX5_barOf_0 rfl (lv_at hl 1 rfl) ?_
  by_cases k_1 : c = 104
  · refine lv_lookup (off := 51) (tgt := 52) hx hb dX5_barOf_1 (by decide) (by rw [k_1]; decide) (by decide) ?_
    refine lv_aload_n hx hb dX5_barOf_52 rfl (lv_at hl 0 rfl) ?_
    refine k_i (va_runV (As := []) (rest := []) ⟨hx, hb, hml, hown, hts⟩ (c_X5_barSpan l D cI cB cO H.size m0 g0 g1 g2 g3 g4 g5 g6 g7 g8 ms N ax fa ho la fs n P F G sd (by first | assumption | omega)) (cwV 0 hts gX5_barOf_X5_barSpan rfl rfl rfl (by decide +kernel) ⟨Nat.le_of_ble_eq_true rfl, Nat.le_of_ble_eq_true rfl⟩) (preV_of hK hP hD hS hA hSt [0, 1, 2] (by decide) rfl 0 (ci := 5) rfl rfl) rfl rfl hl.1 rfl (lv_room (Nat.le_of_ble_eq_true rfl)) dX5_barOf_53 ⟨Nat.le_of_ble_eq_true rfl, Nat.le_of_ble_eq_true rfl⟩) hP hD hS hA [0, 1, 2] [] [0, 1, 2] [] (fun (u_2 : Unit) => [(m0, .inr (5, [.ref g0, .ref g1, .ref g2, .int (nI ms), .ref g3, .ref g4, .int (nI N), .int (nI ax), .ref g5, .ref g6, .int fa, .int ho, .int la, .int fs, .ref g7, .ref g8])), (g0, .inl (cI, 58, .inl (rowL (n, P, F, G)))), (g7, .inl (cI, 4, .inl sd))]) rfl rfl (by decide) (by decide) (by decide) (fun _ => rfl) (fun r_2 u_2 H locs q_2 hP hD hS => ?_)
    obtain rfl : r_2 = bSpan n (sd 0) (sd 1) (sd 2) (sd 3) := q_2
    refine e_i (u := ()) hx hb hr hlocks hP hD hS dX5_barOf_56 ?_ ?_
    · rfl
    · exact bar_104 (L := (n, P, F, G)) (by assumption)
  by_cases k_3 : c = 107
  · refine lv_lookup (off := 56) (tgt := 57) hx hb dX5_barOf_1 (by decide) (by rw [k_3]; decide) (by decide) ?_
    refine lv_aload_n hx hb dX5_barOf_57 rfl (lv_at hl 0 rfl) ?_
    refine va_get (D := D) (ci := 5) (v := .ref g7) (C := RX5) (T := TX5) (N := 16) hx hb hts in_X5_barOf_5 hown hK hP 0 rfl rfl 14 (by decide) (hts (.fieldLink RX5 31 "HoseSpansModel" "said" "[I") (List.mem_of_getElem? (i := 1) (by decide +kernel))) (fun _ h9 => h9) rfl dX5_barOf_58 ?_
    refine lv_iconst (v := 0) hx hb dX5_barOf_61 (by decide) ?_
    refine va_iald hx hb hK hP 2 0 rfl rfl (vp_in_nI (n := 0) (by decide) (by decide)) dX5_barOf_62 ?_
    refine e_n (y := sd 0) (congrArg sd (by decide)) ?_
    refine lv_iconst (v := 0) hx hb dX5_barOf_63 (by decide) ?_
    refine lv_iconst (v := 5) hx hb dX5_barOf_64 (by decide) ?_
    refine k_i (va_runS (As := [.int (sd 0), .int 0, .int 5]) (rest := []) ⟨hx, hb, hml, hown, hts⟩ (c_X5_in l D cI cB cO H.size (sd 0) 0 5 ) (va_cwS 3 hts gX5_barOf_X5_in rfl rfl rfl (by decide +kernel) ⟨Nat.le_of_ble_eq_true rfl, Nat.le_of_ble_eq_true rfl⟩) (preS_of hK hP hD hS hA hSt [] (by decide) rfl) rfl rfl hl.1 rfl (lv_room (Nat.le_of_ble_eq_true rfl)) dX5_barOf_65 ⟨Nat.le_of_ble_eq_true rfl, Nat.le_of_ble_eq_true rfl⟩) hP hD hS hA [] [0, 1, 2] [0, 1, 2] [(m0, .inr (5, [.ref g0, .ref g1, .ref g2, .int (nI ms), .ref g3, .ref g4, .int (nI N), .int (nI ax), .ref g5, .ref g6, .int fa, .int ho, .int la, .int fs, .ref g7, .ref g8])), (g0, .inl (cI, 58, .inl (rowL (n, P, F, G)))), (g7, .inl (cI, 4, .inl sd))] (fun (u_4 : Unit) => [(m0, .inr (5, [.ref g0, .ref g1, .ref g2, .int (nI ms), .ref g3, .ref g4, .int (nI N), .int (nI ax), .ref g5, .ref g6, .int fa, .int ho, .int la, .int fs, .ref g7, .ref g8])), (g0, .inl (cI, 58, .inl (rowL (n, P, F, G)))), (g7, .inl (cI, 4, .inl sd))]) rfl rfl (by decide) (by decide) (by decide) (fun _ => rfl) (fun r_4 u_4 H locs q_4 hP hD hS => ?_)
    obtain rfl : r_4 = bI (inR (sd 0) 0 5) := q_4
    refine lv_if_eq (tgt := 105) hx hb dX5_barOf_68 (by decide) (fun c_5 => ?_) (fun c_5 => ?_)
    · have c_5 := bI_0.mp c_5
      refine lv_ldc (v := -1000002) hx hb hown (hts (.constant RX5 37 (-1000002)) (List.mem_of_getElem? (i := 2) (by decide +kernel))) dX5_barOf_105 ?_
      refine e_i (u := ()) hx hb hr hlocks hP hD hS dX5_barOf_107 ?_ ?_
      · rfl
      · refine Eq.trans ?_ (bar_107 (L := (n, P, F, G)) (by assumption) (by assumption)); first | exact zb_t (okSet_t (by assumption) (by assumption)) | exact zb_f (okSet_1 (by assumption)) | exact zb_f (okSet_2 (by assumption))
    · have c_5 := bI_n0.mp c_5
      have h05 := c_5
      refine lv_aload_n hx hb dX5_barOf_71 rfl (lv_at hl 0 rfl) ?_
      refine va_get (D := D) (ci := 5) (v := .ref g7) (C := RX5) (T := TX5) (N := 16) hx hb hts in_X5_barOf_5 hown hK hP 0 rfl rfl 14 (by decide) (hts (.fieldLink RX5 31 "HoseSpansModel" "said" "[I") (List.mem_of_getElem? (i := 1) (by decide +kernel))) (fun _ h9 => h9) rfl dX5_barOf_72 ?_
      refine lv_iconst (v := 1) hx hb dX5_barOf_75 (by decide) ?_
      refine va_iald hx hb hK hP 2 0 rfl rfl (vp_in_nI (n := 1) (by decide) (by decide)) dX5_barOf_76 ?_
      refine e_n (y := sd 1) (congrArg sd (by decide)) ?_
      refine lv_aload_n hx hb dX5_barOf_77 rfl (lv_at hl 0 rfl) ?_
      refine va_get (D := D) (ci := 5) (v := .ref g7) (C := RX5) (T := TX5) (N := 16) hx hb hts in_X5_barOf_5 hown hK hP 0 rfl rfl 14 (by decide) (hts (.fieldLink RX5 31 "HoseSpansModel" "said" "[I") (List.mem_of_getElem? (i := 1) (by decide +kernel))) (fun _ h9 => h9) rfl dX5_barOf_78 ?_
      refine lv_iconst (v := 0) hx hb dX5_barOf_81 (by decide) ?_
      refine va_iald hx hb hK hP 2 0 rfl rfl (vp_in_nI (n := 0) (by decide) (by decide)) dX5_barOf_82 ?_
      refine e_n (y := sd 0) (congrArg sd (by decide)) ?_
      refine k_i (va_runS (As := [.int (sd 0)]) (rest := [.int (sd 1)]) ⟨hx, hb, hml, hown, hts⟩ (c_X5_leastOf l D cI cB cO H.size (sd 0) (by first | assumption | omega)) (va_cwS 1 hts gX5_barOf_X5_leastOf rfl rfl rfl (by decide +kernel) ⟨Nat.le_of_ble_eq_true rfl, Nat.le_of_ble_eq_true rfl⟩) (preS_of hK hP hD hS hA hSt [] (by decide) rfl) rfl rfl hl.1 rfl (lv_room (Nat.le_of_ble_eq_true rfl)) dX5_barOf_83 ⟨Nat.le_of_ble_eq_true rfl, Nat.le_of_ble_eq_true rfl⟩) hP hD hS hA [] [0, 1, 2] [0, 1, 2] [(m0, .inr (5, [.ref g0, .ref g1, .ref g2, .int (nI ms), .ref g3, .ref g4, .int (nI N), .int (nI ax), .ref g5, .ref g6, .int fa, .int ho, .int la, .int fs, .ref g7, .ref g8])), (g0, .inl (cI, 58, .inl (rowL (n, P, F, G)))), (g7, .inl (cI, 4, .inl sd))] (fun (u_6 : Unit) => [(m0, .inr (5, [.ref g0, .ref g1, .ref g2, .int (nI ms), .ref g3, .ref g4, .int (nI N), .int (nI ax), .ref g5, .ref g6, .int fa, .int ho, .int la, .int fs, .ref g7, .ref g8])), (g0, .inl (cI, 58, .inl (rowL (n, P, F, G)))), (g7, .inl (cI, 4, .inl sd))]) rfl rfl (by decide) (by decide) (by decide) (fun _ => rfl) (fun r_6 u_6 H locs q_6 hP hD hS => ?_)
      obtain rfl : r_6 = kLow (pl (sd 0)) := q_6
      refine lv_aload_n hx hb dX5_barOf_86 rfl (lv_at hl 0 rfl) ?_
      refine va_get (D := D) (ci := 5) (v := .ref g7) (C := RX5) (T := TX5) (N := 16) hx hb hts in_X5_barOf_5 hown hK hP 0 rfl rfl 14 (by decide) (hts (.fieldLink RX5 31 "HoseSpansModel" "said" "[I") (List.mem_of_getElem? (i := 1) (by decide +kernel))) (fun _ h9 => h9) rfl dX5_barOf_87 ?_
      refine lv_iconst (v := 0) hx hb dX5_barOf_90 (by decide) ?_
      refine va_iald hx hb hK hP 2 0 rfl rfl (vp_in_nI (n := 0) (by decide) (by decide)) dX5_barOf_91 ?_
      refine e_n (y := sd 0) (congrArg sd (by decide)) ?_
      refine k_i (va_runS (As := [.int (sd 0)]) (rest := [.int (kLow (pl (sd 0))), .int (sd 1)]) ⟨hx, hb, hml, hown, hts⟩ (c_X5_mostOf l D cI cB cO H.size (sd 0) (by first | assumption | omega)) (va_cwS 1 hts gX5_barOf_X5_mostOf rfl rfl rfl (by decide +kernel) ⟨Nat.le_of_ble_eq_true rfl, Nat.le_of_ble_eq_true rfl⟩) (preS_of hK hP hD hS hA hSt [] (by decide) rfl) rfl rfl hl.1 rfl (lv_room (Nat.le_of_ble_eq_true rfl)) dX5_barOf_92 ⟨Nat.le_of_ble_eq_true rfl, Nat.le_of_ble_eq_true rfl⟩) hP hD hS hA [] [0, 1, 2] [0, 1, 2] [(m0, .inr (5, [.ref g0, .ref g1, .ref g2, .int (nI ms), .ref g3, .ref g4, .int (nI N), .int (nI ax), .ref g5, .ref g6, .int fa, .int ho, .int la, .int fs, .ref g7, .ref g8])), (g0, .inl (cI, 58, .inl (rowL (n, P, F, G)))), (g7, .inl (cI, 4, .inl sd))] (fun (u_7 : Unit) => [(m0, .inr (5, [.ref g0, .ref g1, .ref g2, .int (nI ms), .ref g3, .ref g4, .int (nI N), .int (nI ax), .ref g5, .ref g6, .int fa, .int ho, .int la, .int fs, .ref g7, .ref g8])), (g0, .inl (cI, 58, .inl (rowL (n, P, F, G)))), (g7, .inl (cI, 4, .inl sd))]) rfl rfl (by decide) (by decide) (by decide) (fun _ => rfl) (fun r_7 u_7 H locs q_7 hP hD hS => ?_)
      obtain rfl : r_7 = kHigh (pl (sd 0)) := q_7
      refine k_i (va_runS (As := [.int (sd 1), .int (kLow (pl (sd 0))), .int (kHigh (pl (sd 0)))]) (rest := []) ⟨hx, hb, hml, hown, hts⟩ (c_X5_in l D cI cB cO H.size (sd 1) (kLow (pl (sd 0))) (kHigh (pl (sd 0))) ) (va_cwS 3 hts gX5_barOf_X5_in rfl rfl rfl (by decide +kernel) ⟨Nat.le_of_ble_eq_true rfl, Nat.le_of_ble_eq_true rfl⟩) (preS_of hK hP hD hS hA hSt [] (by decide) rfl) rfl rfl hl.1 rfl (lv_room (Nat.le_of_ble_eq_true rfl)) dX5_barOf_95 ⟨Nat.le_of_ble_eq_true rfl, Nat.le_of_ble_eq_true rfl⟩) hP hD hS hA [] [0, 1, 2] [0, 1, 2] [(m0, .inr (5, [.ref g0, .ref g1, .ref g2, .int (nI ms), .ref g3, .ref g4, .int (nI N), .int (nI ax), .ref g5, .ref g6, .int fa, .int ho, .int la, .int fs, .ref g7, .ref g8])), (g0, .inl (cI, 58, .inl (rowL (n, P, F, G)))), (g7, .inl (cI, 4, .inl sd))] (fun (u_8 : Unit) => [(m0, .inr (5, [.ref g0, .ref g1, .ref g2, .int (nI ms), .ref g3, .ref g4, .int (nI N), .int (nI ax), .ref g5, .ref g6, .int fa, .int ho, .int la, .int fs, .ref g7, .ref g8])), (g0, .inl (cI, 58, .inl (rowL (n, P, F, G)))), (g7, .inl (cI, 4, .inl sd))]) rfl rfl (by decide) (by decide) (by decide) (fun _ => rfl) (fun r_8 u_8 H locs q_8 hP hD hS => ?_)
      obtain rfl : r_8 = bI (inR (sd 1) (kLow (pl (sd 0))) (kHigh (pl (sd 0)))) := q_8
      refine lv_if_eq (tgt := 105) hx hb dX5_barOf_98 (by decide) (fun c_9 => ?_) (fun c_9 => ?_)
      · have c_9 := bI_0.mp c_9
        refine lv_ldc (v := -1000002) hx hb hown (hts (.constant RX5 37 (-1000002)) (List.mem_of_getElem? (i := 2) (by decide +kernel))) dX5_barOf_105 ?_
        refine e_i (u := ()) hx hb hr hlocks hP hD hS dX5_barOf_107 ?_ ?_
        · rfl
        · refine Eq.trans ?_ (bar_107 (L := (n, P, F, G)) (by assumption) (by assumption)); first | exact zb_t (okSet_t (by assumption) (by assumption)) | exact zb_f (okSet_1 (by assumption)) | exact zb_f (okSet_2 (by assumption))
      · have c_9 := bI_n0.mp c_9
        refine lv_iconst (v := 0) hx hb dX5_barOf_101 (by decide) ?_
        refine lv_goto (tgt := 107) hx hb dX5_barOf_102 (by decide) ?_
        refine e_i (u := ()) hx hb hr hlocks hP hD hS dX5_barOf_107 ?_ ?_
        · rfl
        · refine Eq.trans ?_ (bar_107 (L := (n, P, F, G)) (by assumption) (by assumption)); first | exact zb_t (okSet_t (by assumption) (by assumption)) | exact zb_f (okSet_1 (by assumption)) | exact zb_f (okSet_2 (by assumption))
  by_cases k_10 : c = 109
  · refine lv_lookup (off := 147) (tgt := 148) hx hb dX5_barOf_1 (by decide) (by rw [k_10]; decide) (by decide) ?_
    refine lv_aload_n hx hb dX5_barOf_148 rfl (lv_at hl 0 rfl) ?_
    refine k_i (va_runV (As := []) (rest := []) ⟨hx, hb, hml, hown, hts⟩ (c_X5_barMend l D cI cB cO H.size m0 g0 g1 g2 g3 g4 g5 g6 g7 g8 ms N ax fa ho la fs n P F G sd (by first | assumption | omega)) (cwV 0 hts gX5_barOf_X5_barMend rfl rfl rfl (by decide +kernel) ⟨Nat.le_of_ble_eq_true rfl, Nat.le_of_ble_eq_true rfl⟩) (preV_of hK hP hD hS hA hSt [0, 1, 2] (by decide) rfl 0 (ci := 5) rfl rfl) rfl rfl hl.1 rfl (lv_room (Nat.le_of_ble_eq_true rfl)) dX5_barOf_149 ⟨Nat.le_of_ble_eq_true rfl, Nat.le_of_ble_eq_true rfl⟩) hP hD hS hA [0, 1, 2] [] [0, 1, 2] [] (fun (u_11 : Unit) => [(m0, .inr (5, [.ref g0, .ref g1, .ref g2, .int (nI ms), .ref g3, .ref g4, .int (nI N), .int (nI ax), .ref g5, .ref g6, .int fa, .int ho, .int la, .int fs, .ref g7, .ref g8])), (g0, .inl (cI, 58, .inl (rowL (n, P, F, G)))), (g7, .inl (cI, 4, .inl sd))]) rfl rfl (by decide) (by decide) (by decide) (fun _ => rfl) (fun r_11 u_11 H locs q_11 hP hD hS => ?_)
    obtain rfl : r_11 = bMend (n, P, F, G) (sd 0) := q_11
    refine e_i (u := ()) hx hb hr hlocks hP hD hS dX5_barOf_152 ?_ ?_
    · rfl
    · exact bar_109 (L := (n, P, F, G)) (by assumption) (by assumption) (by assumption)
  by_cases k_12 : c = 112
  · refine lv_lookup (off := 107) (tgt := 108) hx hb dX5_barOf_1 (by decide) (by rw [k_12]; decide) (by decide) ?_
    refine lv_aload_n hx hb dX5_barOf_108 rfl (lv_at hl 0 rfl) ?_
    refine lv_aload_n hx hb dX5_barOf_109 rfl (lv_at hl 0 rfl) ?_
    refine va_get (D := D) (ci := 5) (v := .ref g7) (C := RX5) (T := TX5) (N := 16) hx hb hts in_X5_barOf_5 hown hK hP 0 rfl rfl 14 (by decide) (hts (.fieldLink RX5 31 "HoseSpansModel" "said" "[I") (List.mem_of_getElem? (i := 1) (by decide +kernel))) (fun _ h9 => h9) rfl dX5_barOf_110 ?_
    refine lv_iconst (v := 0) hx hb dX5_barOf_113 (by decide) ?_
    refine va_iald hx hb hK hP 2 0 rfl rfl (vp_in_nI (n := 0) (by decide) (by decide)) dX5_barOf_114 ?_
    refine e_n (y := sd 0) (congrArg sd (by decide)) ?_
    refine k_i (va_runV (As := [.int (sd 0)]) (rest := []) ⟨hx, hb, hml, hown, hts⟩ (c_X5_isNode l D cI cB cO H.size m0 g0 g1 g2 g3 g4 g5 g6 g7 g8 ms N ax fa ho la fs n P F G (sd 0) ) (cwV 1 hts gX5_barOf_X5_isNode rfl rfl rfl (by decide +kernel) ⟨Nat.le_of_ble_eq_true rfl, Nat.le_of_ble_eq_true rfl⟩) (preV_of hK hP hD hS hA hSt [0, 1] (by decide) rfl 0 (ci := 5) rfl rfl) rfl rfl hl.1 rfl (lv_room (Nat.le_of_ble_eq_true rfl)) dX5_barOf_115 ⟨Nat.le_of_ble_eq_true rfl, Nat.le_of_ble_eq_true rfl⟩) hP hD hS hA [0, 1] [2] [1, 2, 0] [(g7, .inl (cI, 4, .inl sd))] (fun (u_13 : Unit) => [(m0, .inr (5, [.ref g0, .ref g1, .ref g2, .int (nI ms), .ref g3, .ref g4, .int (nI N), .int (nI ax), .ref g5, .ref g6, .int fa, .int ho, .int la, .int fs, .ref g7, .ref g8])), (g0, .inl (cI, 58, .inl (rowL (n, P, F, G)))), (g7, .inl (cI, 4, .inl sd))]) rfl rfl (by decide) (by decide) (by decide) (fun _ => rfl) (fun r_13 u_13 H locs q_13 hP hD hS => ?_)
    obtain rfl : r_13 = bI (inR (sd 0) 0 (nI n)) := q_13
    refine lv_if_eq (tgt := 125) hx hb dX5_barOf_118 (by decide) (fun c_14 => ?_) (fun c_14 => ?_)
    · have c_14 := bI_0.mp c_14
      refine lv_ldc (v := -1000002) hx hb hown (hts (.constant RX5 37 (-1000002)) (List.mem_of_getElem? (i := 2) (by decide +kernel))) dX5_barOf_125 ?_
      refine e_i (u := ()) hx hb hr hlocks hP hD hS dX5_barOf_127 ?_ ?_
      · rfl
      · refine Eq.trans ?_ (bar_112 (L := (n, P, F, G)) (by assumption) (by assumption) (by assumption) (by assumption)); first | exact zb_t (by assumption) | exact zb_f (by assumption)
    · have c_14 := bI_n0.mp c_14
      refine lv_iconst (v := 0) hx hb dX5_barOf_121 (by decide) ?_
      refine lv_goto (tgt := 127) hx hb dX5_barOf_122 (by decide) ?_
      refine e_i (u := ()) hx hb hr hlocks hP hD hS dX5_barOf_127 ?_ ?_
      · rfl
      · refine Eq.trans ?_ (bar_112 (L := (n, P, F, G)) (by assumption) (by assumption) (by assumption) (by assumption)); first | exact zb_t (by assumption) | exact zb_f (by assumption)
  by_cases k_15 : c = 120
  · refine lv_lookup (off := 127) (tgt := 128) hx hb dX5_barOf_1 (by decide) (by rw [k_15]; decide) (by decide) ?_
    refine lv_aload_n hx hb dX5_barOf_128 rfl (lv_at hl 0 rfl) ?_
    refine lv_aload_n hx hb dX5_barOf_129 rfl (lv_at hl 0 rfl) ?_
    refine va_get (D := D) (ci := 5) (v := .ref g7) (C := RX5) (T := TX5) (N := 16) hx hb hts in_X5_barOf_5 hown hK hP 0 rfl rfl 14 (by decide) (hts (.fieldLink RX5 31 "HoseSpansModel" "said" "[I") (List.mem_of_getElem? (i := 1) (by decide +kernel))) (fun _ h9 => h9) rfl dX5_barOf_130 ?_
    refine lv_iconst (v := 0) hx hb dX5_barOf_133 (by decide) ?_
    refine va_iald hx hb hK hP 2 0 rfl rfl (vp_in_nI (n := 0) (by decide) (by decide)) dX5_barOf_134 ?_
    refine e_n (y := sd 0) (congrArg sd (by decide)) ?_
    refine k_i (va_runV (As := [.int (sd 0)]) (rest := []) ⟨hx, hb, hml, hown, hts⟩ (c_X5_isSpan l D cI cB cO H.size m0 g0 g1 g2 g3 g4 g5 g6 g7 g8 ms N ax fa ho la fs n P F G (sd 0) ) (cwV 1 hts gX5_barOf_X5_isSpan rfl rfl rfl (by decide +kernel) ⟨Nat.le_of_ble_eq_true rfl, Nat.le_of_ble_eq_true rfl⟩) (preV_of hK hP hD hS hA hSt [0, 1] (by decide) rfl 0 (ci := 5) rfl rfl) rfl rfl hl.1 rfl (lv_room (Nat.le_of_ble_eq_true rfl)) dX5_barOf_135 ⟨Nat.le_of_ble_eq_true rfl, Nat.le_of_ble_eq_true rfl⟩) hP hD hS hA [0, 1] [2] [1, 2, 0] [(g7, .inl (cI, 4, .inl sd))] (fun (u_16 : Unit) => [(m0, .inr (5, [.ref g0, .ref g1, .ref g2, .int (nI ms), .ref g3, .ref g4, .int (nI N), .int (nI ax), .ref g5, .ref g6, .int fa, .int ho, .int la, .int fs, .ref g7, .ref g8])), (g0, .inl (cI, 58, .inl (rowL (n, P, F, G)))), (g7, .inl (cI, 4, .inl sd))]) rfl rfl (by decide) (by decide) (by decide) (fun _ => rfl) (fun r_16 u_16 H locs q_16 hP hD hS => ?_)
    obtain rfl : r_16 = bI (inR (sd 0) 0 (nI n - 1)) := q_16
    refine lv_if_eq (tgt := 145) hx hb dX5_barOf_138 (by decide) (fun c_17 => ?_) (fun c_17 => ?_)
    · have c_17 := bI_0.mp c_17
      refine lv_ldc (v := -1000002) hx hb hown (hts (.constant RX5 37 (-1000002)) (List.mem_of_getElem? (i := 2) (by decide +kernel))) dX5_barOf_145 ?_
      refine e_i (u := ()) hx hb hr hlocks hP hD hS dX5_barOf_147 ?_ ?_
      · rfl
      · refine Eq.trans ?_ (bar_120 (L := (n, P, F, G)) (by assumption) (by assumption) (by assumption) (by assumption) (by assumption)); first | exact zb_t (by assumption) | exact zb_f (by assumption)
    · have c_17 := bI_n0.mp c_17
      refine lv_iconst (v := 0) hx hb dX5_barOf_141 (by decide) ?_
      refine lv_goto (tgt := 147) hx hb dX5_barOf_142 (by decide) ?_
      refine e_i (u := ()) hx hb hr hlocks hP hD hS dX5_barOf_147 ?_ ?_
      · rfl
      · refine Eq.trans ?_ (bar_120 (L := (n, P, F, G)) (by assumption) (by assumption) (by assumption) (by assumption) (by assumption)); first | exact zb_t (by assumption) | exact zb_f (by assumption)
  have nk_1 : Int32.toInt c ≠ 104 := ne_ti (by decide) k_1
  have nk_3 : Int32.toInt c ≠ 107 := ne_ti (by decide) k_3
  have nk_10 : Int32.toInt c ≠ 109 := ne_ti (by decide) k_10
  have nk_12 : Int32.toInt c ≠ 112 := ne_ti (by decide) k_12
  have nk_15 : Int32.toInt c ≠ 120 := ne_ti (by decide) k_15
  refine lv_lookup (off := 152) (tgt := 153) hx hb dX5_barOf_1 (by decide) (by simp [Op.lookupswitch.offset, nk_1, nk_3, nk_10, nk_12, nk_15, Ne.symm nk_1, Ne.symm nk_3, Ne.symm nk_10, Ne.symm nk_12, Ne.symm nk_15]) (by decide) ?_
  refine lv_aload_n hx hb dX5_barOf_153 rfl (lv_at hl 0 rfl) ?_
  refine va_get (D := D) (ci := 5) (v := .ref g0) (C := RX5) (T := TX5) (N := 16) hx hb hts in_X5_barOf_5 hown hK hP 0 rfl rfl 0 (by decide) (hts (.fieldLink RX5 7 "HoseSpansModel" "now" "[I") (List.mem_of_getElem? (i := 3) (by decide +kernel))) (fun _ h9 => h9) rfl dX5_barOf_154 ?_
  refine lv_iconst (v := 0) hx hb dX5_barOf_157 (by decide) ?_
  refine va_iald hx hb hK hP 1 0 rfl rfl (vp_in_nI (n := 0) (by decide) (by decide)) dX5_barOf_158 ?_
  refine e_n (y := (rowL (n, P, F, G)) 0) (congrArg (rowL (n, P, F, G)) (by decide)) ?_
  refine e_n (y := nI n) rfl ?_
  refine lv_if_ne (tgt := 167) hx hb dX5_barOf_159 (by decide) (fun c_18 => ?_) (fun c_18 => ?_)
  · have c_18 : ¬ n = 0 := fun h => c_18 (by rw [h]; rfl)
    refine lv_iconst (v := 0) hx hb dX5_barOf_167 (by decide) ?_
    refine e_i (u := ()) hx hb hr hlocks hP hD hS dX5_barOf_168 ?_ ?_
    · rfl
    · refine Eq.trans ?_ (bar_c (L := (n, P, F, G)) (by assumption) (by assumption) (by assumption) (by assumption) (by assumption)); first | exact (if_pos (by assumption)).symm | exact (if_neg (by assumption)).symm
  · have c_18 : n = 0 := (nI_eq (b := 0) (by omega) (by decide)).mp c_18
    refine lv_ldc (v := -1000003) hx hb hown (hts (.constant RX5 106 (-1000003)) (List.mem_of_getElem? (i := 4) (by decide +kernel))) dX5_barOf_162 ?_
    refine lv_goto (tgt := 168) hx hb dX5_barOf_164 (by decide) ?_
    refine e_i (u := ()) hx hb hr hlocks hP hD hS dX5_barOf_168 ?_ ?_
    · rfl
    · refine Eq.trans ?_ (bar_c (L := (n, P, F, G)) (by assumption) (by assumption) (by assumption) (by assumption) (by assumption)); first | exact (if_pos (by assumption)).symm | exact (if_neg (by assumption)).symm
theorem in_X5_doSpan_5 : ∀ w ∈ wsX50, w ∈ wsX5_doSpan := fun _ h => List.mem_cons_of_mem _ (List.mem_append_right _ h)
set_option maxHeartbeats 4000000 in
set_option maxRecDepth 100000 in
theorem c_X5_doSpan (l : Launch) (D : va_G) (cI cB cO : ClassId) (sz : Nat) (m0 g0 g1 g2 g3 g4 g5 g6 g7 g8 ms N ax : Nat) (fa ho la fs : Int32) (n : Nat) (P : Int32) (F G : Nat → Int32) (sd : Nat → Int32) (hn : n < 10) : CI l yX5_doSpan wsX5_doSpan ({ frames := 0, cells := 0, slots := 0, locals := 0 } : Room) D (tyL cI cB cO) [.ref m0] [(m0, .inr (5, [.ref g0, .ref g1, .ref g2, .int (nI ms), .ref g3, .ref g4, .int (nI N), .int (nI ax), .ref g5, .ref g6, .int fa, .int ho, .int la, .int fs, .ref g7, .ref g8])), (g0, .inl (cI, 58, .inl (rowL (n, P, F, G)))), (g7, .inl (cI, 4, .inl sd))] sz (fun (r : Int32) (_ : Unit) => r = nI n) (fun (u : Unit) => [(m0, .inr (5, [.ref g0, .ref g1, .ref g2, .int (nI ms), .ref g3, .ref g4, .int (nI N), .int (nI ax), .ref g5, .ref g6, .int fa, .int ho, .int la, .int fs, .ref g7, .ref g8])), (g0, .inl (cI, 58, .inl (rowL (n + 1, P, setSp F n (sd 0) (sd 1) (sd 2) (sd 3), G)))), (g7, .inl (cI, 4, .inl sd))]) 0 0 := by
  refine ct_of (cc := cX5_doSpan) (maxL := 3) (ret := some .int) (own := RX5) (Qc := QI D (fun (r : Int32) (_ : Unit) => r = nI n) (fun (u : Unit) => [(m0, .inr (5, [.ref g0, .ref g1, .ref g2, .int (nI ms), .ref g3, .ref g4, .int (nI N), .int (nI ax), .ref g5, .ref g6, .int fa, .int ho, .int la, .int fs, .ref g7, .ref g8])), (g0, .inl (cI, 58, .inl (rowL (n + 1, P, setSp F n (sd 0) (sd 1) (sd 2) (sd 3), G)))), (g7, .inl (cI, 4, .inl sd))])) (by decide) rfl rfl (Nat.le_of_ble_eq_true rfl) ?_
  intro pM eM sM mM below meth cM AM ls H locs hx hb hr hts hown hlocks hml hin hK hP hD hS hA hSt hl
  have hl : lv_has ls 3 [(0, .ref m0)] := hl
  refine lv_bipush (v := 8) hx hb dX5_doSpan_0 (by decide) ?_
  refine lv_iconst (v := 5) hx hb dX5_doSpan_2 (by decide) ?_
  refine lv_aload_n hx hb dX5_doSpan_3 rfl (lv_at hl 0 rfl) ?_
  refine va_get (D := D) (ci := 5) (v := .ref g0) (C := RX5) (T := TX5) (N := 16) hx hb hts in_X5_doSpan_5 hown hK hP 0 rfl rfl 0 (by decide) (hts (.fieldLink RX5 7 "HoseSpansModel" "now" "[I") (List.mem_of_getElem? (i := 1) (by decide +kernel))) (fun _ h9 => h9) rfl dX5_doSpan_4 ?_
  refine lv_iconst (v := 0) hx hb dX5_doSpan_7 (by decide) ?_
  refine va_iald hx hb hK hP 1 0 rfl rfl (vp_in_nI (n := 0) (by decide) (by decide)) dX5_doSpan_8 ?_
  refine e_n (y := (rowL (n, P, F, G)) 0) (congrArg (rowL (n, P, F, G)) (by decide)) ?_
  refine e_n (y := nI n) rfl ?_
  refine lv_imul hx hb dX5_doSpan_9 ?_
  refine e_n (y := nI (5 * n)) (pk_mul 5 n) ?_
  refine lv_iadd hx hb dX5_doSpan_10 ?_
  refine e_n (y := nI (8 + 5 * n)) (nI_add 8 (5 * n)) ?_
  refine lv_istore_n (lv' := [(1, .int (nI (8 + 5 * n))), (0, .ref m0)]) hx hb dX5_doSpan_11 rfl hl (by decide) rfl (fun ls hl => ?_)
  refine lv_iconst (v := 0) hx hb dX5_doSpan_12 (by decide) ?_
  refine lv_istore_n (lv' := [(2, .int 0), (1, .int (nI (8 + 5 * n))), (0, .ref m0)]) hx hb dX5_doSpan_13 rfl hl (by decide) rfl (fun ls hl => ?_)
  refine lv_iload_n hx hb dX5_doSpan_14 rfl (lv_at hl 0 rfl) ?_
  refine lv_iconst (v := 5) hx hb dX5_doSpan_15 (by decide) ?_
  refine lv_icmp_ge (tgt := 48) hx hb dX5_doSpan_16 (by decide) (fun c_1 => ?_) (fun c_1 => ?_)
  · have c_1 := Int32.not_lt.mpr c_1
    exact absurd (by decide) c_1
  · have c_1 := Int32.not_le.mp c_1
    refine lv_aload_n hx hb dX5_doSpan_19 rfl (lv_at hl 2 rfl) ?_
    refine va_get (D := D) (ci := 5) (v := .ref g0) (C := RX5) (T := TX5) (N := 16) hx hb hts in_X5_doSpan_5 hown hK hP 0 rfl rfl 0 (by decide) (hts (.fieldLink RX5 7 "HoseSpansModel" "now" "[I") (List.mem_of_getElem? (i := 1) (by decide +kernel))) (fun _ h9 => h9) rfl dX5_doSpan_20 ?_
    refine lv_iload_n hx hb dX5_doSpan_23 rfl (lv_at hl 1 rfl) ?_
    refine lv_iload_n hx hb dX5_doSpan_24 rfl (lv_at hl 0 rfl) ?_
    refine lv_iadd hx hb dX5_doSpan_25 ?_
    refine e_n (y := nI (8 + 5 * n + 0)) (nI_add (8 + 5 * n) 0) ?_
    refine lv_iload_n hx hb dX5_doSpan_26 rfl (lv_at hl 0 rfl) ?_
    refine lv_iconst (v := 4) hx hb dX5_doSpan_27 (by decide) ?_
    refine lv_icmp_ge (tgt := 40) hx hb dX5_doSpan_28 (by decide) (fun c_2 => ?_) (fun c_2 => ?_)
    · have c_2 := Int32.not_lt.mpr c_2
      exact absurd (by decide) c_2
    · have c_2 := Int32.not_le.mp c_2
      refine lv_aload_n hx hb dX5_doSpan_31 rfl (lv_at hl 2 rfl) ?_
      refine va_get (D := D) (ci := 5) (v := .ref g7) (C := RX5) (T := TX5) (N := 16) hx hb hts in_X5_doSpan_5 hown hK hP 0 rfl rfl 14 (by decide) (hts (.fieldLink RX5 31 "HoseSpansModel" "said" "[I") (List.mem_of_getElem? (i := 2) (by decide +kernel))) (fun _ h9 => h9) rfl dX5_doSpan_32 ?_
      refine lv_iload_n hx hb dX5_doSpan_35 rfl (lv_at hl 0 rfl) ?_
      refine va_iald hx hb hK hP 2 0 rfl rfl (vp_in_nI (n := 0) (by decide) (by decide)) dX5_doSpan_36 ?_
      refine e_n (y := sd 0) (congrArg sd (by decide)) ?_
      refine lv_goto (tgt := 41) hx hb dX5_doSpan_37 (by decide) ?_
      refine va_iast hx hb hK hP hD hS 1 0 rfl rfl (vp_in_nI (by omega) (by decide)) dX5_doSpan_41 (fun H locs hP hD hS => ?_)
      rw [show Int32.toNatClampNeg (nI (8 + 5 * n + 0)) = 8 + 5 * n + 0 from (nI_clamp (by omega))] at hP hD
      rw [show upd (rowL (n, P, F, G)) (8 + 5 * n + 0) (sd 0) = rowL (n, P, upd F (n * 5 + 0) (sd 0), G) from (row_uf n 0)] at hP hD
      have hP : va_P D vwCl [(m0, .inr (5, [.ref g0, .ref g1, .ref g2, .int (nI ms), .ref g3, .ref g4, .int (nI N), .int (nI ax), .ref g5, .ref g6, .int fa, .int ho, .int la, .int fs, .ref g7, .ref g8])), (g0, .inl (cI, 58, .inl (rowL (n, P, upd F (n * 5 + 0) (sd 0), G)))), (g7, .inl (cI, 4, .inl sd))] H := hP
      have hD : va_D AM [(m0, .inr (5, [.ref g0, .ref g1, .ref g2, .int (nI ms), .ref g3, .ref g4, .int (nI N), .int (nI ax), .ref g5, .ref g6, .int fa, .int ho, .int la, .int fs, .ref g7, .ref g8])), (g0, .inl (cI, 58, .inl (rowL (n, P, upd F (n * 5 + 0) (sd 0), G)))), (g7, .inl (cI, 4, .inl sd))] := hD
      refine lv_iinc (v := 1) (lv' := [(2, .int 1), (1, .int (nI (8 + 5 * n))), (0, .ref m0)]) hx hb dX5_doSpan_42 hl (k := 0) rfl (by decide) (by decide) rfl (fun ls hl => ?_)
      refine lv_goto (tgt := 14) hx hb dX5_doSpan_45 (by decide) ?_
      refine lv_iload_n hx hb dX5_doSpan_14 rfl (lv_at hl 0 rfl) ?_
      refine lv_iconst (v := 5) hx hb dX5_doSpan_15 (by decide) ?_
      refine lv_icmp_ge (tgt := 48) hx hb dX5_doSpan_16 (by decide) (fun c_3 => ?_) (fun c_3 => ?_)
      · have c_3 := Int32.not_lt.mpr c_3
        exact absurd (by decide) c_3
      · have c_3 := Int32.not_le.mp c_3
        refine lv_aload_n hx hb dX5_doSpan_19 rfl (lv_at hl 2 rfl) ?_
        refine va_get (D := D) (ci := 5) (v := .ref g0) (C := RX5) (T := TX5) (N := 16) hx hb hts in_X5_doSpan_5 hown hK hP 0 rfl rfl 0 (by decide) (hts (.fieldLink RX5 7 "HoseSpansModel" "now" "[I") (List.mem_of_getElem? (i := 1) (by decide +kernel))) (fun _ h9 => h9) rfl dX5_doSpan_20 ?_
        refine lv_iload_n hx hb dX5_doSpan_23 rfl (lv_at hl 1 rfl) ?_
        refine lv_iload_n hx hb dX5_doSpan_24 rfl (lv_at hl 0 rfl) ?_
        refine lv_iadd hx hb dX5_doSpan_25 ?_
        refine e_n (y := nI (8 + 5 * n + 1)) (nI_add (8 + 5 * n) 1) ?_
        refine lv_iload_n hx hb dX5_doSpan_26 rfl (lv_at hl 0 rfl) ?_
        refine lv_iconst (v := 4) hx hb dX5_doSpan_27 (by decide) ?_
        refine lv_icmp_ge (tgt := 40) hx hb dX5_doSpan_28 (by decide) (fun c_4 => ?_) (fun c_4 => ?_)
        · have c_4 := Int32.not_lt.mpr c_4
          exact absurd (by decide) c_4
        · have c_4 := Int32.not_le.mp c_4
          refine lv_aload_n hx hb dX5_doSpan_31 rfl (lv_at hl 2 rfl) ?_
          refine va_get (D := D) (ci := 5) (v := .ref g7) (C := RX5) (T := TX5) (N := 16) hx hb hts in_X5_doSpan_5 hown hK hP 0 rfl rfl 14 (by decide) (hts (.fieldLink RX5 31 "HoseSpansModel" "said" "[I") (List.mem_of_getElem? (i := 2) (by decide +kernel))) (fun _ h9 => h9) rfl dX5_doSpan_32 ?_
          refine lv_iload_n hx hb dX5_doSpan_35 rfl (lv_at hl 0 rfl) ?_
          refine va_iald hx hb hK hP 2 0 rfl rfl (vp_in_nI (n := 1) (by decide) (by decide)) dX5_doSpan_36 ?_
          refine e_n (y := sd 1) (congrArg sd (by decide)) ?_
          refine lv_goto (tgt := 41) hx hb dX5_doSpan_37 (by decide) ?_
          refine va_iast hx hb hK hP hD hS 1 0 rfl rfl (vp_in_nI (by omega) (by decide)) dX5_doSpan_41 (fun H locs hP hD hS => ?_)
          rw [show Int32.toNatClampNeg (nI (8 + 5 * n + 1)) = 8 + 5 * n + 1 from (nI_clamp (by omega))] at hP hD
          rw [show upd (rowL (n, P, upd F (n * 5 + 0) (sd 0), G)) (8 + 5 * n + 1) (sd 1) = rowL (n, P, upd (upd F (n * 5 + 0) (sd 0)) (n * 5 + 1) (sd 1), G) from (row_uf n 1)] at hP hD
          have hP : va_P D vwCl [(m0, .inr (5, [.ref g0, .ref g1, .ref g2, .int (nI ms), .ref g3, .ref g4, .int (nI N), .int (nI ax), .ref g5, .ref g6, .int fa, .int ho, .int la, .int fs, .ref g7, .ref g8])), (g0, .inl (cI, 58, .inl (rowL (n, P, upd (upd F (n * 5 + 0) (sd 0)) (n * 5 + 1) (sd 1), G)))), (g7, .inl (cI, 4, .inl sd))] H := hP
          have hD : va_D AM [(m0, .inr (5, [.ref g0, .ref g1, .ref g2, .int (nI ms), .ref g3, .ref g4, .int (nI N), .int (nI ax), .ref g5, .ref g6, .int fa, .int ho, .int la, .int fs, .ref g7, .ref g8])), (g0, .inl (cI, 58, .inl (rowL (n, P, upd (upd F (n * 5 + 0) (sd 0)) (n * 5 + 1) (sd 1), G)))), (g7, .inl (cI, 4, .inl sd))] := hD
          refine lv_iinc (v := 2) (lv' := [(2, .int 2), (1, .int (nI (8 + 5 * n))), (0, .ref m0)]) hx hb dX5_doSpan_42 hl (k := 0) rfl (by decide) (by decide) rfl (fun ls hl => ?_)
          refine lv_goto (tgt := 14) hx hb dX5_doSpan_45 (by decide) ?_
          refine lv_iload_n hx hb dX5_doSpan_14 rfl (lv_at hl 0 rfl) ?_
          refine lv_iconst (v := 5) hx hb dX5_doSpan_15 (by decide) ?_
          refine lv_icmp_ge (tgt := 48) hx hb dX5_doSpan_16 (by decide) (fun c_5 => ?_) (fun c_5 => ?_)
          · have c_5 := Int32.not_lt.mpr c_5
            exact absurd (by decide) c_5
          · have c_5 := Int32.not_le.mp c_5
            refine lv_aload_n hx hb dX5_doSpan_19 rfl (lv_at hl 2 rfl) ?_
            refine va_get (D := D) (ci := 5) (v := .ref g0) (C := RX5) (T := TX5) (N := 16) hx hb hts in_X5_doSpan_5 hown hK hP 0 rfl rfl 0 (by decide) (hts (.fieldLink RX5 7 "HoseSpansModel" "now" "[I") (List.mem_of_getElem? (i := 1) (by decide +kernel))) (fun _ h9 => h9) rfl dX5_doSpan_20 ?_
            refine lv_iload_n hx hb dX5_doSpan_23 rfl (lv_at hl 1 rfl) ?_
            refine lv_iload_n hx hb dX5_doSpan_24 rfl (lv_at hl 0 rfl) ?_
            refine lv_iadd hx hb dX5_doSpan_25 ?_
            refine e_n (y := nI (8 + 5 * n + 2)) (nI_add (8 + 5 * n) 2) ?_
            refine lv_iload_n hx hb dX5_doSpan_26 rfl (lv_at hl 0 rfl) ?_
            refine lv_iconst (v := 4) hx hb dX5_doSpan_27 (by decide) ?_
            refine lv_icmp_ge (tgt := 40) hx hb dX5_doSpan_28 (by decide) (fun c_6 => ?_) (fun c_6 => ?_)
            · have c_6 := Int32.not_lt.mpr c_6
              exact absurd (by decide) c_6
            · have c_6 := Int32.not_le.mp c_6
              refine lv_aload_n hx hb dX5_doSpan_31 rfl (lv_at hl 2 rfl) ?_
              refine va_get (D := D) (ci := 5) (v := .ref g7) (C := RX5) (T := TX5) (N := 16) hx hb hts in_X5_doSpan_5 hown hK hP 0 rfl rfl 14 (by decide) (hts (.fieldLink RX5 31 "HoseSpansModel" "said" "[I") (List.mem_of_getElem? (i := 2) (by decide +kernel))) (fun _ h9 => h9) rfl dX5_doSpan_32 ?_
              refine lv_iload_n hx hb dX5_doSpan_35 rfl (lv_at hl 0 rfl) ?_
              refine va_iald hx hb hK hP 2 0 rfl rfl (vp_in_nI (n := 2) (by decide) (by decide)) dX5_doSpan_36 ?_
              refine e_n (y := sd 2) (congrArg sd (by decide)) ?_
              refine lv_goto (tgt := 41) hx hb dX5_doSpan_37 (by decide) ?_
              refine va_iast hx hb hK hP hD hS 1 0 rfl rfl (vp_in_nI (by omega) (by decide)) dX5_doSpan_41 (fun H locs hP hD hS => ?_)
              rw [show Int32.toNatClampNeg (nI (8 + 5 * n + 2)) = 8 + 5 * n + 2 from (nI_clamp (by omega))] at hP hD
              rw [show upd (rowL (n, P, upd (upd F (n * 5 + 0) (sd 0)) (n * 5 + 1) (sd 1), G)) (8 + 5 * n + 2) (sd 2) = rowL (n, P, upd (upd (upd F (n * 5 + 0) (sd 0)) (n * 5 + 1) (sd 1)) (n * 5 + 2) (sd 2), G) from (row_uf n 2)] at hP hD
              have hP : va_P D vwCl [(m0, .inr (5, [.ref g0, .ref g1, .ref g2, .int (nI ms), .ref g3, .ref g4, .int (nI N), .int (nI ax), .ref g5, .ref g6, .int fa, .int ho, .int la, .int fs, .ref g7, .ref g8])), (g0, .inl (cI, 58, .inl (rowL (n, P, upd (upd (upd F (n * 5 + 0) (sd 0)) (n * 5 + 1) (sd 1)) (n * 5 + 2) (sd 2), G)))), (g7, .inl (cI, 4, .inl sd))] H := hP
              have hD : va_D AM [(m0, .inr (5, [.ref g0, .ref g1, .ref g2, .int (nI ms), .ref g3, .ref g4, .int (nI N), .int (nI ax), .ref g5, .ref g6, .int fa, .int ho, .int la, .int fs, .ref g7, .ref g8])), (g0, .inl (cI, 58, .inl (rowL (n, P, upd (upd (upd F (n * 5 + 0) (sd 0)) (n * 5 + 1) (sd 1)) (n * 5 + 2) (sd 2), G)))), (g7, .inl (cI, 4, .inl sd))] := hD
              refine lv_iinc (v := 3) (lv' := [(2, .int 3), (1, .int (nI (8 + 5 * n))), (0, .ref m0)]) hx hb dX5_doSpan_42 hl (k := 0) rfl (by decide) (by decide) rfl (fun ls hl => ?_)
              refine lv_goto (tgt := 14) hx hb dX5_doSpan_45 (by decide) ?_
              refine lv_iload_n hx hb dX5_doSpan_14 rfl (lv_at hl 0 rfl) ?_
              refine lv_iconst (v := 5) hx hb dX5_doSpan_15 (by decide) ?_
              refine lv_icmp_ge (tgt := 48) hx hb dX5_doSpan_16 (by decide) (fun c_7 => ?_) (fun c_7 => ?_)
              · have c_7 := Int32.not_lt.mpr c_7
                exact absurd (by decide) c_7
              · have c_7 := Int32.not_le.mp c_7
                refine lv_aload_n hx hb dX5_doSpan_19 rfl (lv_at hl 2 rfl) ?_
                refine va_get (D := D) (ci := 5) (v := .ref g0) (C := RX5) (T := TX5) (N := 16) hx hb hts in_X5_doSpan_5 hown hK hP 0 rfl rfl 0 (by decide) (hts (.fieldLink RX5 7 "HoseSpansModel" "now" "[I") (List.mem_of_getElem? (i := 1) (by decide +kernel))) (fun _ h9 => h9) rfl dX5_doSpan_20 ?_
                refine lv_iload_n hx hb dX5_doSpan_23 rfl (lv_at hl 1 rfl) ?_
                refine lv_iload_n hx hb dX5_doSpan_24 rfl (lv_at hl 0 rfl) ?_
                refine lv_iadd hx hb dX5_doSpan_25 ?_
                refine e_n (y := nI (8 + 5 * n + 3)) (nI_add (8 + 5 * n) 3) ?_
                refine lv_iload_n hx hb dX5_doSpan_26 rfl (lv_at hl 0 rfl) ?_
                refine lv_iconst (v := 4) hx hb dX5_doSpan_27 (by decide) ?_
                refine lv_icmp_ge (tgt := 40) hx hb dX5_doSpan_28 (by decide) (fun c_8 => ?_) (fun c_8 => ?_)
                · have c_8 := Int32.not_lt.mpr c_8
                  exact absurd (by decide) c_8
                · have c_8 := Int32.not_le.mp c_8
                  refine lv_aload_n hx hb dX5_doSpan_31 rfl (lv_at hl 2 rfl) ?_
                  refine va_get (D := D) (ci := 5) (v := .ref g7) (C := RX5) (T := TX5) (N := 16) hx hb hts in_X5_doSpan_5 hown hK hP 0 rfl rfl 14 (by decide) (hts (.fieldLink RX5 31 "HoseSpansModel" "said" "[I") (List.mem_of_getElem? (i := 2) (by decide +kernel))) (fun _ h9 => h9) rfl dX5_doSpan_32 ?_
                  refine lv_iload_n hx hb dX5_doSpan_35 rfl (lv_at hl 0 rfl) ?_
                  refine va_iald hx hb hK hP 2 0 rfl rfl (vp_in_nI (n := 3) (by decide) (by decide)) dX5_doSpan_36 ?_
                  refine e_n (y := sd 3) (congrArg sd (by decide)) ?_
                  refine lv_goto (tgt := 41) hx hb dX5_doSpan_37 (by decide) ?_
                  refine va_iast hx hb hK hP hD hS 1 0 rfl rfl (vp_in_nI (by omega) (by decide)) dX5_doSpan_41 (fun H locs hP hD hS => ?_)
                  rw [show Int32.toNatClampNeg (nI (8 + 5 * n + 3)) = 8 + 5 * n + 3 from (nI_clamp (by omega))] at hP hD
                  rw [show upd (rowL (n, P, upd (upd (upd F (n * 5 + 0) (sd 0)) (n * 5 + 1) (sd 1)) (n * 5 + 2) (sd 2), G)) (8 + 5 * n + 3) (sd 3) = rowL (n, P, upd (upd (upd (upd F (n * 5 + 0) (sd 0)) (n * 5 + 1) (sd 1)) (n * 5 + 2) (sd 2)) (n * 5 + 3) (sd 3), G) from (row_uf n 3)] at hP hD
                  have hP : va_P D vwCl [(m0, .inr (5, [.ref g0, .ref g1, .ref g2, .int (nI ms), .ref g3, .ref g4, .int (nI N), .int (nI ax), .ref g5, .ref g6, .int fa, .int ho, .int la, .int fs, .ref g7, .ref g8])), (g0, .inl (cI, 58, .inl (rowL (n, P, upd (upd (upd (upd F (n * 5 + 0) (sd 0)) (n * 5 + 1) (sd 1)) (n * 5 + 2) (sd 2)) (n * 5 + 3) (sd 3), G)))), (g7, .inl (cI, 4, .inl sd))] H := hP
                  have hD : va_D AM [(m0, .inr (5, [.ref g0, .ref g1, .ref g2, .int (nI ms), .ref g3, .ref g4, .int (nI N), .int (nI ax), .ref g5, .ref g6, .int fa, .int ho, .int la, .int fs, .ref g7, .ref g8])), (g0, .inl (cI, 58, .inl (rowL (n, P, upd (upd (upd (upd F (n * 5 + 0) (sd 0)) (n * 5 + 1) (sd 1)) (n * 5 + 2) (sd 2)) (n * 5 + 3) (sd 3), G)))), (g7, .inl (cI, 4, .inl sd))] := hD
                  refine lv_iinc (v := 4) (lv' := [(2, .int 4), (1, .int (nI (8 + 5 * n))), (0, .ref m0)]) hx hb dX5_doSpan_42 hl (k := 0) rfl (by decide) (by decide) rfl (fun ls hl => ?_)
                  refine lv_goto (tgt := 14) hx hb dX5_doSpan_45 (by decide) ?_
                  refine lv_iload_n hx hb dX5_doSpan_14 rfl (lv_at hl 0 rfl) ?_
                  refine lv_iconst (v := 5) hx hb dX5_doSpan_15 (by decide) ?_
                  refine lv_icmp_ge (tgt := 48) hx hb dX5_doSpan_16 (by decide) (fun c_9 => ?_) (fun c_9 => ?_)
                  · have c_9 := Int32.not_lt.mpr c_9
                    exact absurd (by decide) c_9
                  · have c_9 := Int32.not_le.mp c_9
                    refine lv_aload_n hx hb dX5_doSpan_19 rfl (lv_at hl 2 rfl) ?_
                    refine va_get (D := D) (ci := 5) (v := .ref g0) (C := RX5) (T := TX5) (N := 16) hx hb hts in_X5_doSpan_5 hown hK hP 0 rfl rfl 0 (by decide) (hts (.fieldLink RX5 7 "HoseSpansModel" "now" "[I") (List.mem_of_getElem? (i := 1) (by decide +kernel))) (fun _ h9 => h9) rfl dX5_doSpan_20 ?_
                    refine lv_iload_n hx hb dX5_doSpan_23 rfl (lv_at hl 1 rfl) ?_
                    refine lv_iload_n hx hb dX5_doSpan_24 rfl (lv_at hl 0 rfl) ?_
                    refine lv_iadd hx hb dX5_doSpan_25 ?_
                    refine e_n (y := nI (8 + 5 * n + 4)) (nI_add (8 + 5 * n) 4) ?_
                    refine lv_iload_n hx hb dX5_doSpan_26 rfl (lv_at hl 0 rfl) ?_
                    refine lv_iconst (v := 4) hx hb dX5_doSpan_27 (by decide) ?_
                    refine lv_icmp_ge (tgt := 40) hx hb dX5_doSpan_28 (by decide) (fun c_10 => ?_) (fun c_10 => ?_)
                    · have c_10 := Int32.not_lt.mpr c_10
                      refine lv_iconst (v := 0) hx hb dX5_doSpan_40 (by decide) ?_
                      refine va_iast hx hb hK hP hD hS 1 0 rfl rfl (vp_in_nI (by omega) (by decide)) dX5_doSpan_41 (fun H locs hP hD hS => ?_)
                      rw [show Int32.toNatClampNeg (nI (8 + 5 * n + 4)) = 8 + 5 * n + 4 from (nI_clamp (by omega))] at hP hD
                      rw [show upd (rowL (n, P, upd (upd (upd (upd F (n * 5 + 0) (sd 0)) (n * 5 + 1) (sd 1)) (n * 5 + 2) (sd 2)) (n * 5 + 3) (sd 3), G)) (8 + 5 * n + 4) 0 = rowL (n, P, upd (upd (upd (upd (upd F (n * 5 + 0) (sd 0)) (n * 5 + 1) (sd 1)) (n * 5 + 2) (sd 2)) (n * 5 + 3) (sd 3)) (n * 5 + 4) 0, G) from (row_uf n 4)] at hP hD
                      have hP : va_P D vwCl [(m0, .inr (5, [.ref g0, .ref g1, .ref g2, .int (nI ms), .ref g3, .ref g4, .int (nI N), .int (nI ax), .ref g5, .ref g6, .int fa, .int ho, .int la, .int fs, .ref g7, .ref g8])), (g0, .inl (cI, 58, .inl (rowL (n, P, upd (upd (upd (upd (upd F (n * 5 + 0) (sd 0)) (n * 5 + 1) (sd 1)) (n * 5 + 2) (sd 2)) (n * 5 + 3) (sd 3)) (n * 5 + 4) 0, G)))), (g7, .inl (cI, 4, .inl sd))] H := hP
                      have hD : va_D AM [(m0, .inr (5, [.ref g0, .ref g1, .ref g2, .int (nI ms), .ref g3, .ref g4, .int (nI N), .int (nI ax), .ref g5, .ref g6, .int fa, .int ho, .int la, .int fs, .ref g7, .ref g8])), (g0, .inl (cI, 58, .inl (rowL (n, P, upd (upd (upd (upd (upd F (n * 5 + 0) (sd 0)) (n * 5 + 1) (sd 1)) (n * 5 + 2) (sd 2)) (n * 5 + 3) (sd 3)) (n * 5 + 4) 0, G)))), (g7, .inl (cI, 4, .inl sd))] := hD
                      refine lv_iinc (v := 5) (lv' := [(2, .int 5), (1, .int (nI (8 + 5 * n))), (0, .ref m0)]) hx hb dX5_doSpan_42 hl (k := 0) rfl (by decide) (by decide) rfl (fun ls hl => ?_)
                      refine lv_goto (tgt := 14) hx hb dX5_doSpan_45 (by decide) ?_
                      refine lv_iload_n hx hb dX5_doSpan_14 rfl (lv_at hl 0 rfl) ?_
                      refine lv_iconst (v := 5) hx hb dX5_doSpan_15 (by decide) ?_
                      refine lv_icmp_ge (tgt := 48) hx hb dX5_doSpan_16 (by decide) (fun c_11 => ?_) (fun c_11 => ?_)
                      · have c_11 := Int32.not_lt.mpr c_11
                        refine lv_aload_n hx hb dX5_doSpan_48 rfl (lv_at hl 2 rfl) ?_
                        refine va_get (D := D) (ci := 5) (v := .ref g0) (C := RX5) (T := TX5) (N := 16) hx hb hts in_X5_doSpan_5 hown hK hP 0 rfl rfl 0 (by decide) (hts (.fieldLink RX5 7 "HoseSpansModel" "now" "[I") (List.mem_of_getElem? (i := 1) (by decide +kernel))) (fun _ h9 => h9) rfl dX5_doSpan_49 ?_
                        refine lv_iconst (v := 0) hx hb dX5_doSpan_52 (by decide) ?_
                        refine lv_dup2_11 hx hb dX5_doSpan_53 rfl rfl ?_
                        refine va_iald hx hb hK hP 1 0 rfl rfl (vp_in_nI (n := 0) (by decide) (by decide)) dX5_doSpan_54 ?_
                        refine e_n (y := (rowL (n, P, upd (upd (upd (upd (upd F (n * 5 + 0) (sd 0)) (n * 5 + 1) (sd 1)) (n * 5 + 2) (sd 2)) (n * 5 + 3) (sd 3)) (n * 5 + 4) 0, G)) 0) (congrArg (rowL (n, P, upd (upd (upd (upd (upd F (n * 5 + 0) (sd 0)) (n * 5 + 1) (sd 1)) (n * 5 + 2) (sd 2)) (n * 5 + 3) (sd 3)) (n * 5 + 4) 0, G)) (by decide)) ?_
                        refine e_n (y := nI n) rfl ?_
                        refine lv_iconst (v := 1) hx hb dX5_doSpan_55 (by decide) ?_
                        refine lv_iadd hx hb dX5_doSpan_56 ?_
                        refine e_n (y := nI (n + 1)) (nI_add n 1) ?_
                        refine va_iast hx hb hK hP hD hS 1 0 rfl rfl (vp_in_nI (n := 0) (by decide) (by decide)) dX5_doSpan_57 (fun H locs hP hD hS => ?_)
                        rw [show Int32.toNatClampNeg 0 = 0 from (by decide)] at hP hD
                        rw [show upd (rowL (n, P, upd (upd (upd (upd (upd F (n * 5 + 0) (sd 0)) (n * 5 + 1) (sd 1)) (n * 5 + 2) (sd 2)) (n * 5 + 3) (sd 3)) (n * 5 + 4) 0, G)) 0 (nI (n + 1)) = rowL (n + 1, P, upd (upd (upd (upd (upd F (n * 5 + 0) (sd 0)) (n * 5 + 1) (sd 1)) (n * 5 + 2) (sd 2)) (n * 5 + 3) (sd 3)) (n * 5 + 4) 0, G) from row_u0] at hP hD
                        have hP : va_P D vwCl [(m0, .inr (5, [.ref g0, .ref g1, .ref g2, .int (nI ms), .ref g3, .ref g4, .int (nI N), .int (nI ax), .ref g5, .ref g6, .int fa, .int ho, .int la, .int fs, .ref g7, .ref g8])), (g0, .inl (cI, 58, .inl (rowL (n + 1, P, upd (upd (upd (upd (upd F (n * 5 + 0) (sd 0)) (n * 5 + 1) (sd 1)) (n * 5 + 2) (sd 2)) (n * 5 + 3) (sd 3)) (n * 5 + 4) 0, G)))), (g7, .inl (cI, 4, .inl sd))] H := hP
                        have hD : va_D AM [(m0, .inr (5, [.ref g0, .ref g1, .ref g2, .int (nI ms), .ref g3, .ref g4, .int (nI N), .int (nI ax), .ref g5, .ref g6, .int fa, .int ho, .int la, .int fs, .ref g7, .ref g8])), (g0, .inl (cI, 58, .inl (rowL (n + 1, P, upd (upd (upd (upd (upd F (n * 5 + 0) (sd 0)) (n * 5 + 1) (sd 1)) (n * 5 + 2) (sd 2)) (n * 5 + 3) (sd 3)) (n * 5 + 4) 0, G)))), (g7, .inl (cI, 4, .inl sd))] := hD
                        refine lv_aload_n hx hb dX5_doSpan_58 rfl (lv_at hl 2 rfl) ?_
                        refine va_get (D := D) (ci := 5) (v := .ref g0) (C := RX5) (T := TX5) (N := 16) hx hb hts in_X5_doSpan_5 hown hK hP 0 rfl rfl 0 (by decide) (hts (.fieldLink RX5 7 "HoseSpansModel" "now" "[I") (List.mem_of_getElem? (i := 1) (by decide +kernel))) (fun _ h9 => h9) rfl dX5_doSpan_59 ?_
                        refine lv_iconst (v := 0) hx hb dX5_doSpan_62 (by decide) ?_
                        refine va_iald hx hb hK hP 1 0 rfl rfl (vp_in_nI (n := 0) (by decide) (by decide)) dX5_doSpan_63 ?_
                        refine e_n (y := (rowL (n + 1, P, upd (upd (upd (upd (upd F (n * 5 + 0) (sd 0)) (n * 5 + 1) (sd 1)) (n * 5 + 2) (sd 2)) (n * 5 + 3) (sd 3)) (n * 5 + 4) 0, G)) 0) (congrArg (rowL (n + 1, P, upd (upd (upd (upd (upd F (n * 5 + 0) (sd 0)) (n * 5 + 1) (sd 1)) (n * 5 + 2) (sd 2)) (n * 5 + 3) (sd 3)) (n * 5 + 4) 0, G)) (by decide)) ?_
                        refine e_n (y := nI (n + 1)) rfl ?_
                        refine lv_iconst (v := 1) hx hb dX5_doSpan_64 (by decide) ?_
                        refine lv_isub hx hb dX5_doSpan_65 ?_
                        refine e_n (y := nI (n + 1 - 1)) (pk_sub (a := n + 1) (b := 1) (by omega)) ?_
                        refine e_i (u := ()) hx hb hr hlocks hP hD hS dX5_doSpan_66 ?_ ?_
                        · rfl
                        · rfl
                      · have c_11 := Int32.not_le.mp c_11
                        exact absurd c_11 (by decide)
                    · have c_10 := Int32.not_le.mp c_10
                      exact absurd c_10 (by decide)
theorem in_X5_act_5 : ∀ w ∈ wsX50, w ∈ wsX5_act := fun _ h => List.mem_cons_of_mem _ (List.mem_append_right _ h)
set_option maxHeartbeats 4000000 in
set_option maxRecDepth 100000 in
theorem c_X5_act (l : Launch) (D : va_G) (cI cB cO : ClassId) (sz : Nat) (m0 g0 g1 g2 g3 g4 g5 g6 g7 g8 ms N ax : Nat) (fa ho la fs : Int32) (n : Nat) (P : Int32) (F G : Nat → Int32) (sd : Nat → Int32) (c : Int32) (hn : n ≤ 10) (hp : okPumps P) (hb0 : barF (n, P, F, G) c sd = 0) : CI l yX5_act wsX5_act ({ frames := 2, cells := 0, slots := 0, locals := 43 } : Room) D (tyL cI cB cO) [.ref m0, .int c] [(m0, .inr (5, [.ref g0, .ref g1, .ref g2, .int (nI ms), .ref g3, .ref g4, .int (nI N), .int (nI ax), .ref g5, .ref g6, .int fa, .int ho, .int la, .int fs, .ref g7, .ref g8])), (g0, .inl (cI, 58, .inl (rowL (n, P, F, G)))), (g7, .inl (cI, 4, .inl sd))] sz (fun (ans : Int32) (u : Ln) => (ans, u) = (sOrd (n, P, F, G) c sd)) (fun (u : Ln) => [(m0, .inr (5, [.ref g0, .ref g1, .ref g2, .int (nI ms), .ref g3, .ref g4, .int (nI N), .int (nI ax), .ref g5, .ref g6, .int fa, .int ho, .int la, .int fs, .ref g7, .ref g8])), (g0, .inl (cI, 58, .inl (rowL u))), (g7, .inl (cI, 4, .inl sd))]) 0 0 := by
  refine ct_of (cc := cX5_act) (maxL := 4) (ret := some .int) (own := RX5) (Qc := QI D (fun (ans : Int32) (u : Ln) => (ans, u) = (sOrd (n, P, F, G) c sd)) (fun (u : Ln) => [(m0, .inr (5, [.ref g0, .ref g1, .ref g2, .int (nI ms), .ref g3, .ref g4, .int (nI N), .int (nI ax), .ref g5, .ref g6, .int fa, .int ho, .int la, .int fs, .ref g7, .ref g8])), (g0, .inl (cI, 58, .inl (rowL u))), (g7, .inl (cI, 4, .inl sd))])) (by decide) rfl rfl (Nat.le_of_ble_eq_true rfl) ?_
  intro pM eM sM mM below meth cM AM ls H locs hx hb hr hts hown hlocks hml hin hK hP hD hS hA hSt hl
  have hl : lv_has ls 4 [(0, .ref m0), (1, .int c)] := hl
  refine lv_aload_n hx hb dX5_act_0 rfl (lv_at hl 0 rfl) ?_
  refine va_get (D := D) (ci := 5) (v := .ref g7) (C := RX5) (T := TX5) (N := 16) hx hb hts in_X5_act_5 hown hK hP 0 rfl rfl 14 (by decide) (hts (.fieldLink RX5 31 "HoseSpansModel" "said" "[I") (List.mem_of_getElem? (i := 1) (by decide +kernel))) (fun _ h9 => h9) rfl dX5_act_1 ?_
  refine lv_iconst (v := 0) hx hb dX5_act_4 (by decide) ?_
  refine va_iald hx hb hK hP 2 0 rfl rfl (vp_in_nI (n := 0) (by decide) (by decide)) dX5_act_5 ?_
  refine e_n (y := sd 0) (congrArg sd (by decide)) ?_
  refine lv_istore_n (lv' := [(2, .int (sd 0)), (0, .ref m0), (1, .int c)]) hx hb dX5_act_6 rfl hl (by decide) rfl (fun ls hl => ?_)
  refine lv_iload_n hx hb dX5_act_7 rfl (lv_at hl 2 rfl) ?_
  by_cases k_1 : c = 104
  · refine lv_lookup (off := 52) (tgt := 60) hx hb dX5_act_8 (by decide) (by rw [k_1]; decide) (by decide) ?_
    rw [← bar_104 (L := (n, P, F, G)) (by assumption)] at hb0
    obtain ⟨hk1, hk2⟩ := bS_0 hb0
    refine lv_aload_n hx hb dX5_act_60 rfl (lv_at hl 1 rfl) ?_
    refine k_i (va_runV (As := []) (rest := []) ⟨hx, hb, hml, hown, hts⟩ (c_X5_doSpan l D cI cB cO H.size m0 g0 g1 g2 g3 g4 g5 g6 g7 g8 ms N ax fa ho la fs n P F G sd (by first | assumption | omega)) (cwV 0 hts gX5_act_X5_doSpan rfl rfl rfl (by decide +kernel) ⟨Nat.le_of_ble_eq_true rfl, Nat.le_of_ble_eq_true rfl⟩) (preV_of hK hP hD hS hA hSt [0, 1, 2] (by decide) rfl 0 (ci := 5) rfl rfl) rfl rfl hl.1 rfl (lv_room (Nat.le_of_ble_eq_true rfl)) dX5_act_61 ⟨Nat.le_of_ble_eq_true rfl, Nat.le_of_ble_eq_true rfl⟩) hP hD hS hA [0, 1, 2] [] [0, 1, 2] [] (fun (u_2 : Unit) => [(m0, .inr (5, [.ref g0, .ref g1, .ref g2, .int (nI ms), .ref g3, .ref g4, .int (nI N), .int (nI ax), .ref g5, .ref g6, .int fa, .int ho, .int la, .int fs, .ref g7, .ref g8])), (g0, .inl (cI, 58, .inl (rowL (n + 1, P, setSp F n (sd 0) (sd 1) (sd 2) (sd 3), G)))), (g7, .inl (cI, 4, .inl sd))]) rfl rfl (by decide) (by decide) (by decide) (fun _ => rfl) (fun r_2 u_2 H locs q_2 hP hD hS => ?_)
    obtain rfl : r_2 = nI n := q_2
    refine e_i (u := (n + 1, P, setSp F n (sd 0) (sd 1) (sd 2) (sd 3), G)) hx hb hr hlocks hP hD hS dX5_act_64 ?_ ?_
    · rfl
    · rw [ord_104 (by assumption)]; exact (sSpan_ok (okSpan_t hk1).1 (okSpan_t hk1).2.1 (okSpan_t hk1).2.2.1 (okSpan_t hk1).2.2.2 (by omega)).symm
  by_cases k_3 : c = 107
  · refine lv_lookup (off := 57) (tgt := 65) hx hb dX5_act_8 (by decide) (by rw [k_3]; decide) (by decide) ?_
    rw [← bar_107 (L := (n, P, F, G)) (by assumption) (by assumption)] at hb0
    have hk1 := zb_0 hb0
    have hk2 := Bool.and_eq_true_iff.mp hk1
    obtain ⟨j, hj, e0⟩ := set_in hk2.1
    have hk3 := hk2.2
    rw [e0, pl_nI (show j < 2147483648 by omega)] at hk3
    rw [show sd 0 = nI j from e0] at hl
    have hl : lv_has ls 4 [(2, .int (nI j)), (0, .ref m0), (1, .int c)] := hl
    refine lv_aload_n hx hb dX5_act_65 rfl (lv_at hl 1 rfl) ?_
    refine va_get (D := D) (ci := 5) (v := .ref g0) (C := RX5) (T := TX5) (N := 16) hx hb hts in_X5_act_5 hown hK hP 0 rfl rfl 0 (by decide) (hts (.fieldLink RX5 7 "HoseSpansModel" "now" "[I") (List.mem_of_getElem? (i := 2) (by decide +kernel))) (fun _ h9 => h9) rfl dX5_act_66 ?_
    refine lv_iconst (v := 2) hx hb dX5_act_69 (by decide) ?_
    refine lv_iload_n hx hb dX5_act_70 rfl (lv_at hl 0 rfl) ?_
    refine lv_iadd hx hb dX5_act_71 ?_
    refine e_n (y := nI (2 + j)) (nI_add 2 j) ?_
    refine va_iald hx hb hK hP 1 0 rfl rfl (vp_in_nI (by omega) (by decide)) dX5_act_72 ?_
    refine e_n (y := (rowL (n, P, F, G)) (2 + j)) (congrArg (rowL (n, P, F, G)) (nI_clamp (by omega))) ?_
    refine e_n (y := G j) (row_g (by omega)) ?_
    refine lv_istore_n (lv' := [(3, .int (G j)), (2, .int (nI j)), (0, .ref m0), (1, .int c)]) hx hb dX5_act_73 rfl hl (by decide) rfl (fun ls hl => ?_)
    refine lv_aload_n hx hb dX5_act_74 rfl (lv_at hl 2 rfl) ?_
    refine va_get (D := D) (ci := 5) (v := .ref g0) (C := RX5) (T := TX5) (N := 16) hx hb hts in_X5_act_5 hown hK hP 0 rfl rfl 0 (by decide) (hts (.fieldLink RX5 7 "HoseSpansModel" "now" "[I") (List.mem_of_getElem? (i := 2) (by decide +kernel))) (fun _ h9 => h9) rfl dX5_act_75 ?_
    refine lv_iconst (v := 2) hx hb dX5_act_78 (by decide) ?_
    refine lv_iload_n hx hb dX5_act_79 rfl (lv_at hl 1 rfl) ?_
    refine lv_iadd hx hb dX5_act_80 ?_
    refine e_n (y := nI (2 + j)) (nI_add 2 j) ?_
    refine lv_aload_n hx hb dX5_act_81 rfl (lv_at hl 2 rfl) ?_
    refine va_get (D := D) (ci := 5) (v := .ref g7) (C := RX5) (T := TX5) (N := 16) hx hb hts in_X5_act_5 hown hK hP 0 rfl rfl 14 (by decide) (hts (.fieldLink RX5 31 "HoseSpansModel" "said" "[I") (List.mem_of_getElem? (i := 1) (by decide +kernel))) (fun _ h9 => h9) rfl dX5_act_82 ?_
    refine lv_iconst (v := 1) hx hb dX5_act_85 (by decide) ?_
    refine va_iald hx hb hK hP 2 0 rfl rfl (vp_in_nI (n := 1) (by decide) (by decide)) dX5_act_86 ?_
    refine e_n (y := sd 1) (congrArg sd (by decide)) ?_
    refine va_iast hx hb hK hP hD hS 1 0 rfl rfl (vp_in_nI (by omega) (by decide)) dX5_act_87 (fun H locs hP hD hS => ?_)
    rw [show Int32.toNatClampNeg (nI (2 + j)) = 2 + j from (nI_clamp (by omega))] at hP hD
    rw [show upd (rowL (n, P, F, G)) (2 + j) (sd 1) = rowL (n, P, F, upd G j (sd 1)) from (row_ug (k := j) (by omega))] at hP hD
    have hP : va_P D vwCl [(m0, .inr (5, [.ref g0, .ref g1, .ref g2, .int (nI ms), .ref g3, .ref g4, .int (nI N), .int (nI ax), .ref g5, .ref g6, .int fa, .int ho, .int la, .int fs, .ref g7, .ref g8])), (g0, .inl (cI, 58, .inl (rowL (n, P, F, upd G j (sd 1))))), (g7, .inl (cI, 4, .inl sd))] H := hP
    have hD : va_D AM [(m0, .inr (5, [.ref g0, .ref g1, .ref g2, .int (nI ms), .ref g3, .ref g4, .int (nI N), .int (nI ax), .ref g5, .ref g6, .int fa, .int ho, .int la, .int fs, .ref g7, .ref g8])), (g0, .inl (cI, 58, .inl (rowL (n, P, F, upd G j (sd 1))))), (g7, .inl (cI, 4, .inl sd))] := hD
    refine lv_iload_n hx hb dX5_act_88 rfl (lv_at hl 0 rfl) ?_
    refine e_i (u := (n, P, F, upd G j (sd 1))) hx hb hr hlocks hP hD hS dX5_act_89 ?_ ?_
    · rfl
    · rw [ord_107 (by assumption) (by assumption), e0]; exact (sSet_ok hj (by rw [← e0]; exact hk2.1) hk3).symm
  by_cases k_4 : c = 109
  · refine lv_lookup (off := 129) (tgt := 137) hx hb dX5_act_8 (by decide) (by rw [k_4]; decide) (by decide) ?_
    rw [← bar_109 (L := (n, P, F, G)) (by assumption) (by assumption) (by assumption)] at hb0
    obtain ⟨hk1, hk2⟩ := bM_0 hb0
    obtain ⟨j, hj, e0⟩ := span_in hn hk1
    have hk3 : noMend (n, P, F, G) (nI j) = false := by rw [← e0]; exact hk2
    rw [show sd 0 = nI j from e0] at hl
    have hl : lv_has ls 4 [(2, .int (nI j)), (0, .ref m0), (1, .int c)] := hl
    refine lv_aload_n hx hb dX5_act_137 rfl (lv_at hl 1 rfl) ?_
    refine va_get (D := D) (ci := 5) (v := .ref g0) (C := RX5) (T := TX5) (N := 16) hx hb hts in_X5_act_5 hown hK hP 0 rfl rfl 0 (by decide) (hts (.fieldLink RX5 7 "HoseSpansModel" "now" "[I") (List.mem_of_getElem? (i := 2) (by decide +kernel))) (fun _ h9 => h9) rfl dX5_act_138 ?_
    refine lv_bipush (v := 7) hx hb dX5_act_141 (by decide) ?_
    refine lv_dup2_11 hx hb dX5_act_143 rfl rfl ?_
    refine va_iald hx hb hK hP 1 0 rfl rfl (vp_in_nI (n := 7) (by decide) (by decide)) dX5_act_144 ?_
    refine e_n (y := (rowL (n, P, F, G)) 7) (congrArg (rowL (n, P, F, G)) (by decide)) ?_
    refine e_n (y := G 5) rfl ?_
    refine lv_aload_n hx hb dX5_act_145 rfl (lv_at hl 1 rfl) ?_
    refine lv_iload_n hx hb dX5_act_146 rfl (lv_at hl 0 rfl) ?_
    refine k_i (va_runV (As := [.int (nI j)]) (rest := [.int (G 5), .int 7, .ref g0]) ⟨hx, hb, hml, hown, hts⟩ (c_X5_lengthsOf l D cI cB cO H.size m0 g0 g1 g2 g3 g4 g5 g6 g7 g8 ms N ax fa ho la fs n P F G j (by first | assumption | omega)) (cwV 1 hts gX5_act_X5_lengthsOf rfl rfl rfl (by decide +kernel) ⟨Nat.le_of_ble_eq_true rfl, Nat.le_of_ble_eq_true rfl⟩) (preV_of hK hP hD hS hA hSt [0, 1] (by decide) rfl 0 (ci := 5) rfl rfl) rfl rfl hl.1 rfl (lv_room (Nat.le_of_ble_eq_true rfl)) dX5_act_147 ⟨Nat.le_of_ble_eq_true rfl, Nat.le_of_ble_eq_true rfl⟩) hP hD hS hA [0, 1] [2] [1, 2, 0] [(g7, .inl (cI, 4, .inl sd))] (fun (u_5 : Unit) => [(m0, .inr (5, [.ref g0, .ref g1, .ref g2, .int (nI ms), .ref g3, .ref g4, .int (nI N), .int (nI ax), .ref g5, .ref g6, .int fa, .int ho, .int la, .int fs, .ref g7, .ref g8])), (g0, .inl (cI, 58, .inl (rowL (n, P, F, G)))), (g7, .inl (cI, 4, .inl sd))]) rfl rfl (by decide) (by decide) (by decide) (fun _ => rfl) (fun r_5 u_5 H locs q_5 hP hD hS => ?_)
    obtain rfl : r_5 = hosesF F j := q_5
    refine lv_isub hx hb dX5_act_150 ?_
    refine va_iast hx hb hK hP hD hS 1 0 rfl rfl (vp_in_nI (n := 7) (by decide) (by decide)) dX5_act_151 (fun H locs hP hD hS => ?_)
    rw [show Int32.toNatClampNeg 7 = 7 from (by decide)] at hP hD
    rw [show upd (rowL (n, P, F, G)) 7 ((G 5) - (hosesF F j)) = rowL (n, P, F, upd G 5 ((G 5) - (hosesF F j))) from (row_ug (k := 5) (by omega))] at hP hD
    have hP : va_P D vwCl [(m0, .inr (5, [.ref g0, .ref g1, .ref g2, .int (nI ms), .ref g3, .ref g4, .int (nI N), .int (nI ax), .ref g5, .ref g6, .int fa, .int ho, .int la, .int fs, .ref g7, .ref g8])), (g0, .inl (cI, 58, .inl (rowL (n, P, F, upd G 5 ((G 5) - (hosesF F j)))))), (g7, .inl (cI, 4, .inl sd))] H := hP
    have hD : va_D AM [(m0, .inr (5, [.ref g0, .ref g1, .ref g2, .int (nI ms), .ref g3, .ref g4, .int (nI N), .int (nI ax), .ref g5, .ref g6, .int fa, .int ho, .int la, .int fs, .ref g7, .ref g8])), (g0, .inl (cI, 58, .inl (rowL (n, P, F, upd G 5 ((G 5) - (hosesF F j)))))), (g7, .inl (cI, 4, .inl sd))] := hD
    refine lv_aload_n hx hb dX5_act_152 rfl (lv_at hl 1 rfl) ?_
    refine va_get (D := D) (ci := 5) (v := .ref g0) (C := RX5) (T := TX5) (N := 16) hx hb hts in_X5_act_5 hown hK hP 0 rfl rfl 0 (by decide) (hts (.fieldLink RX5 7 "HoseSpansModel" "now" "[I") (List.mem_of_getElem? (i := 2) (by decide +kernel))) (fun _ h9 => h9) rfl dX5_act_153 ?_
    refine lv_bipush (v := 8) hx hb dX5_act_156 (by decide) ?_
    refine lv_iconst (v := 5) hx hb dX5_act_158 (by decide) ?_
    refine lv_iload_n hx hb dX5_act_159 rfl (lv_at hl 0 rfl) ?_
    refine lv_imul hx hb dX5_act_160 ?_
    refine e_n (y := nI (5 * j)) (pk_mul 5 j) ?_
    refine lv_iadd hx hb dX5_act_161 ?_
    refine e_n (y := nI (8 + 5 * j)) (nI_add 8 (5 * j)) ?_
    refine lv_iconst (v := 4) hx hb dX5_act_162 (by decide) ?_
    refine lv_iadd hx hb dX5_act_163 ?_
    refine e_n (y := nI (8 + 5 * j + 4)) (nI_add (8 + 5 * j) 4) ?_
    refine lv_iconst (v := 0) hx hb dX5_act_164 (by decide) ?_
    refine va_iast hx hb hK hP hD hS 1 0 rfl rfl (vp_in_nI (by omega) (by decide)) dX5_act_165 (fun H locs hP hD hS => ?_)
    rw [show Int32.toNatClampNeg (nI (8 + 5 * j + 4)) = 8 + 5 * j + 4 from (nI_clamp (by omega))] at hP hD
    rw [show upd (rowL (n, P, F, upd G 5 ((G 5) - (hosesF F j)))) (8 + 5 * j + 4) 0 = rowL (n, P, upd F (j * 5 + 4) 0, upd G 5 ((G 5) - (hosesF F j))) from (row_uf j 4)] at hP hD
    have hP : va_P D vwCl [(m0, .inr (5, [.ref g0, .ref g1, .ref g2, .int (nI ms), .ref g3, .ref g4, .int (nI N), .int (nI ax), .ref g5, .ref g6, .int fa, .int ho, .int la, .int fs, .ref g7, .ref g8])), (g0, .inl (cI, 58, .inl (rowL (n, P, upd F (j * 5 + 4) 0, upd G 5 ((G 5) - (hosesF F j)))))), (g7, .inl (cI, 4, .inl sd))] H := hP
    have hD : va_D AM [(m0, .inr (5, [.ref g0, .ref g1, .ref g2, .int (nI ms), .ref g3, .ref g4, .int (nI N), .int (nI ax), .ref g5, .ref g6, .int fa, .int ho, .int la, .int fs, .ref g7, .ref g8])), (g0, .inl (cI, 58, .inl (rowL (n, P, upd F (j * 5 + 4) 0, upd G 5 ((G 5) - (hosesF F j)))))), (g7, .inl (cI, 4, .inl sd))] := hD
    refine lv_aload_n hx hb dX5_act_166 rfl (lv_at hl 1 rfl) ?_
    refine va_get (D := D) (ci := 5) (v := .ref g0) (C := RX5) (T := TX5) (N := 16) hx hb hts in_X5_act_5 hown hK hP 0 rfl rfl 0 (by decide) (hts (.fieldLink RX5 7 "HoseSpansModel" "now" "[I") (List.mem_of_getElem? (i := 2) (by decide +kernel))) (fun _ h9 => h9) rfl dX5_act_167 ?_
    refine lv_bipush (v := 7) hx hb dX5_act_170 (by decide) ?_
    refine va_iald hx hb hK hP 1 0 rfl rfl (vp_in_nI (n := 7) (by decide) (by decide)) dX5_act_172 ?_
    refine e_n (y := (rowL (n, P, upd F (j * 5 + 4) 0, upd G 5 ((G 5) - (hosesF F j)))) 7) (congrArg (rowL (n, P, upd F (j * 5 + 4) 0, upd G 5 ((G 5) - (hosesF F j)))) (by decide)) ?_
    refine e_n (y := (upd G 5 ((G 5) - (hosesF F j))) 5) rfl ?_
    refine e_i (u := (n, P, upd F (j * 5 + 4) 0, upd G 5 (G 5 - hosesF F j))) hx hb hr hlocks hP hD hS dX5_act_173 ?_ ?_
    · rfl
    · rw [ord_109 (by assumption) (by assumption) (by assumption), e0]; exact (sMend_ok (by omega) (by rw [← e0]; exact hk1) (fun q => absurd ((noM_1 (by omega) q).symm.trans hk3) (by decide)) (fun q => absurd ((noM_2 (by omega) q).symm.trans hk3) (by decide))).symm
  by_cases k_6 : c = 112
  · refine lv_lookup (off := 82) (tgt := 90) hx hb dX5_act_8 (by decide) (by rw [k_6]; decide) (by decide) ?_
    rw [← bar_112 (L := (n, P, F, G)) (by assumption) (by assumption) (by assumption) (by assumption)] at hb0
    have hk1 := zb_0 hb0
    obtain ⟨j, hj, e0⟩ := node_in hn hk1
    rw [show sd 0 = nI j from e0] at hl
    have hl : lv_has ls 4 [(2, .int (nI j)), (0, .ref m0), (1, .int c)] := hl
    refine lv_aload_n hx hb dX5_act_90 rfl (lv_at hl 1 rfl) ?_
    refine va_get (D := D) (ci := 5) (v := .ref g0) (C := RX5) (T := TX5) (N := 16) hx hb hts in_X5_act_5 hown hK hP 0 rfl rfl 0 (by decide) (hts (.fieldLink RX5 7 "HoseSpansModel" "now" "[I") (List.mem_of_getElem? (i := 2) (by decide +kernel))) (fun _ h9 => h9) rfl dX5_act_91 ?_
    refine lv_iconst (v := 1) hx hb dX5_act_94 (by decide) ?_
    refine lv_dup2_11 hx hb dX5_act_95 rfl rfl ?_
    refine va_iald hx hb hK hP 1 0 rfl rfl (vp_in_nI (n := 1) (by decide) (by decide)) dX5_act_96 ?_
    refine e_n (y := (rowL (n, P, F, G)) 1) (congrArg (rowL (n, P, F, G)) (by decide)) ?_
    refine e_n (y := P) rfl ?_
    refine lv_iconst (v := 1) hx hb dX5_act_97 (by decide) ?_
    refine lv_iload_n hx hb dX5_act_98 rfl (lv_at hl 0 rfl) ?_
    refine lv_ishl hx hb dX5_act_99 ?_
    refine lv_ixor hx hb dX5_act_100 ?_
    refine va_iast hx hb hK hP hD hS 1 0 rfl rfl (vp_in_nI (n := 1) (by decide) (by decide)) dX5_act_101 (fun H locs hP hD hS => ?_)
    rw [show Int32.toNatClampNeg 1 = 1 from (by decide)] at hP hD
    rw [show upd (rowL (n, P, F, G)) 1 (P ^^^ ((1 : Int32) <<< ((nI j) &&& 31))) = rowL (n, P ^^^ ((1 : Int32) <<< ((nI j) &&& 31)), F, G) from row_u1] at hP hD
    have hP : va_P D vwCl [(m0, .inr (5, [.ref g0, .ref g1, .ref g2, .int (nI ms), .ref g3, .ref g4, .int (nI N), .int (nI ax), .ref g5, .ref g6, .int fa, .int ho, .int la, .int fs, .ref g7, .ref g8])), (g0, .inl (cI, 58, .inl (rowL (n, P ^^^ ((1 : Int32) <<< ((nI j) &&& 31)), F, G)))), (g7, .inl (cI, 4, .inl sd))] H := hP
    have hD : va_D AM [(m0, .inr (5, [.ref g0, .ref g1, .ref g2, .int (nI ms), .ref g3, .ref g4, .int (nI N), .int (nI ax), .ref g5, .ref g6, .int fa, .int ho, .int la, .int fs, .ref g7, .ref g8])), (g0, .inl (cI, 58, .inl (rowL (n, P ^^^ ((1 : Int32) <<< ((nI j) &&& 31)), F, G)))), (g7, .inl (cI, 4, .inl sd))] := hD
    refine lv_aload_n hx hb dX5_act_102 rfl (lv_at hl 1 rfl) ?_
    refine va_get (D := D) (ci := 5) (v := .ref g0) (C := RX5) (T := TX5) (N := 16) hx hb hts in_X5_act_5 hown hK hP 0 rfl rfl 0 (by decide) (hts (.fieldLink RX5 7 "HoseSpansModel" "now" "[I") (List.mem_of_getElem? (i := 2) (by decide +kernel))) (fun _ h9 => h9) rfl dX5_act_103 ?_
    refine lv_iconst (v := 1) hx hb dX5_act_106 (by decide) ?_
    refine va_iald hx hb hK hP 1 0 rfl rfl (vp_in_nI (n := 1) (by decide) (by decide)) dX5_act_107 ?_
    refine e_n (y := (rowL (n, P ^^^ ((1 : Int32) <<< ((nI j) &&& 31)), F, G)) 1) (congrArg (rowL (n, P ^^^ ((1 : Int32) <<< ((nI j) &&& 31)), F, G)) (by decide)) ?_
    refine e_n (y := P ^^^ ((1 : Int32) <<< ((nI j) &&& 31))) rfl ?_
    refine k_i (va_runS (As := [.int (P ^^^ ((1 : Int32) <<< ((nI j) &&& 31)))]) (rest := []) ⟨hx, hb, hml, hown, hts⟩ (c_X5_ones l D cI cB cO H.size (P ^^^ ((1 : Int32) <<< ((nI j) &&& 31))) (by exact hp.xor (by omega))) (va_cwS 1 hts gX5_act_X5_ones rfl rfl rfl (by decide +kernel) ⟨Nat.le_of_ble_eq_true rfl, Nat.le_of_ble_eq_true rfl⟩) (preS_of hK hP hD hS hA hSt [] (by decide) rfl) rfl rfl hl.1 rfl (lv_room (Nat.le_of_ble_eq_true rfl)) dX5_act_108 ⟨Nat.le_of_ble_eq_true rfl, Nat.le_of_ble_eq_true rfl⟩) hP hD hS hA [] [0, 1, 2] [0, 1, 2] [(m0, .inr (5, [.ref g0, .ref g1, .ref g2, .int (nI ms), .ref g3, .ref g4, .int (nI N), .int (nI ax), .ref g5, .ref g6, .int fa, .int ho, .int la, .int fs, .ref g7, .ref g8])), (g0, .inl (cI, 58, .inl (rowL (n, P ^^^ ((1 : Int32) <<< ((nI j) &&& 31)), F, G)))), (g7, .inl (cI, 4, .inl sd))] (fun (u_7 : Unit) => [(m0, .inr (5, [.ref g0, .ref g1, .ref g2, .int (nI ms), .ref g3, .ref g4, .int (nI N), .int (nI ax), .ref g5, .ref g6, .int fa, .int ho, .int la, .int fs, .ref g7, .ref g8])), (g0, .inl (cI, 58, .inl (rowL (n, P ^^^ ((1 : Int32) <<< ((nI j) &&& 31)), F, G)))), (g7, .inl (cI, 4, .inl sd))]) rfl rfl (by decide) (by decide) (by decide) (fun _ => rfl) (fun r_7 u_7 H locs q_7 hP hD hS => ?_)
    obtain rfl : r_7 = bcI (P ^^^ ((1 : Int32) <<< ((nI j) &&& 31))) := q_7
    refine e_i (u := (n, P ^^^ bitOf (nI j), F, G)) hx hb hr hlocks hP hD hS dX5_act_111 ?_ ?_
    · rfl
    · rw [ord_112 (by assumption) (by assumption) (by assumption) (by assumption), e0]; exact (sPump_ok (by rw [← e0]; exact hk1)).symm
  by_cases k_8 : c = 120
  · refine lv_lookup (off := 104) (tgt := 112) hx hb dX5_act_8 (by decide) (by rw [k_8]; decide) (by decide) ?_
    rw [← bar_120 (L := (n, P, F, G)) (by assumption) (by assumption) (by assumption) (by assumption) (by assumption)] at hb0
    have hk1 := zb_0 hb0
    obtain ⟨j, hj, e0⟩ := span_in hn hk1
    rw [show sd 0 = nI j from e0] at hl
    have hl : lv_has ls 4 [(2, .int (nI j)), (0, .ref m0), (1, .int c)] := hl
    refine lv_aload_n hx hb dX5_act_112 rfl (lv_at hl 1 rfl) ?_
    refine lv_iload_n hx hb dX5_act_113 rfl (lv_at hl 0 rfl) ?_
    refine lv_iconst (v := 4) hx hb dX5_act_114 (by decide) ?_
    refine k_i (va_runV (As := [.int (nI j), .int (nI 4)]) (rest := []) ⟨hx, hb, hml, hown, hts⟩ (c_X5_ofSpan l D cI cB cO H.size m0 g0 g1 g2 g3 g4 g5 g6 g7 g8 ms N ax fa ho la fs n P F G j 4 (by first | assumption | omega)) (cwV 2 hts gX5_act_X5_ofSpan rfl rfl rfl (by decide +kernel) ⟨Nat.le_of_ble_eq_true rfl, Nat.le_of_ble_eq_true rfl⟩) (preV_of hK hP hD hS hA hSt [0, 1] (by decide) rfl 0 (ci := 5) rfl rfl) rfl rfl hl.1 rfl (lv_room (Nat.le_of_ble_eq_true rfl)) dX5_act_115 ⟨Nat.le_of_ble_eq_true rfl, Nat.le_of_ble_eq_true rfl⟩) hP hD hS hA [0, 1] [2] [1, 2, 0] [(g7, .inl (cI, 4, .inl sd))] (fun (u_9 : Unit) => [(m0, .inr (5, [.ref g0, .ref g1, .ref g2, .int (nI ms), .ref g3, .ref g4, .int (nI N), .int (nI ax), .ref g5, .ref g6, .int fa, .int ho, .int la, .int fs, .ref g7, .ref g8])), (g0, .inl (cI, 58, .inl (rowL (n, P, F, G)))), (g7, .inl (cI, 4, .inl sd))]) rfl rfl (by decide) (by decide) (by decide) (fun _ => rfl) (fun r_9 u_9 H locs q_9 hP hD hS => ?_)
    obtain rfl : r_9 = F (j * 5 + 4) := q_9
    refine lv_istore_n (lv' := [(3, .int (F (j * 5 + 4))), (2, .int (nI j)), (0, .ref m0), (1, .int c)]) hx hb dX5_act_118 rfl hl (by decide) rfl (fun ls hl => ?_)
    refine lv_aload_n hx hb dX5_act_119 rfl (lv_at hl 2 rfl) ?_
    refine va_get (D := D) (ci := 5) (v := .ref g0) (C := RX5) (T := TX5) (N := 16) hx hb hts in_X5_act_5 hown hK hP 0 rfl rfl 0 (by decide) (hts (.fieldLink RX5 7 "HoseSpansModel" "now" "[I") (List.mem_of_getElem? (i := 2) (by decide +kernel))) (fun _ h9 => h9) rfl dX5_act_120 ?_
    refine lv_bipush (v := 8) hx hb dX5_act_123 (by decide) ?_
    refine lv_iconst (v := 5) hx hb dX5_act_125 (by decide) ?_
    refine lv_iload_n hx hb dX5_act_126 rfl (lv_at hl 1 rfl) ?_
    refine lv_imul hx hb dX5_act_127 ?_
    refine e_n (y := nI (5 * j)) (pk_mul 5 j) ?_
    refine lv_iadd hx hb dX5_act_128 ?_
    refine e_n (y := nI (8 + 5 * j)) (nI_add 8 (5 * j)) ?_
    refine lv_iconst (v := 4) hx hb dX5_act_129 (by decide) ?_
    refine lv_iadd hx hb dX5_act_130 ?_
    refine e_n (y := nI (8 + 5 * j + 4)) (nI_add (8 + 5 * j) 4) ?_
    refine lv_iconst (v := 1) hx hb dX5_act_131 (by decide) ?_
    refine va_iast hx hb hK hP hD hS 1 0 rfl rfl (vp_in_nI (by omega) (by decide)) dX5_act_132 (fun H locs hP hD hS => ?_)
    rw [show Int32.toNatClampNeg (nI (8 + 5 * j + 4)) = 8 + 5 * j + 4 from (nI_clamp (by omega))] at hP hD
    rw [show upd (rowL (n, P, F, G)) (8 + 5 * j + 4) 1 = rowL (n, P, upd F (j * 5 + 4) 1, G) from (row_uf j 4)] at hP hD
    have hP : va_P D vwCl [(m0, .inr (5, [.ref g0, .ref g1, .ref g2, .int (nI ms), .ref g3, .ref g4, .int (nI N), .int (nI ax), .ref g5, .ref g6, .int fa, .int ho, .int la, .int fs, .ref g7, .ref g8])), (g0, .inl (cI, 58, .inl (rowL (n, P, upd F (j * 5 + 4) 1, G)))), (g7, .inl (cI, 4, .inl sd))] H := hP
    have hD : va_D AM [(m0, .inr (5, [.ref g0, .ref g1, .ref g2, .int (nI ms), .ref g3, .ref g4, .int (nI N), .int (nI ax), .ref g5, .ref g6, .int fa, .int ho, .int la, .int fs, .ref g7, .ref g8])), (g0, .inl (cI, 58, .inl (rowL (n, P, upd F (j * 5 + 4) 1, G)))), (g7, .inl (cI, 4, .inl sd))] := hD
    refine lv_iconst (v := 1) hx hb dX5_act_133 (by decide) ?_
    refine lv_iload_n hx hb dX5_act_134 rfl (lv_at hl 0 rfl) ?_
    refine lv_isub hx hb dX5_act_135 ?_
    refine e_i (u := (n, P, upd F (j * 5 + 4) 1, G)) hx hb hr hlocks hP hD hS dX5_act_136 ?_ ?_
    · rfl
    · rw [ord_120 (by assumption) (by assumption) (by assumption) (by assumption) (by assumption), e0]; exact (sBurst_ok (by omega) (by rw [← e0]; exact hk1)).symm
  have nk_1 : Int32.toInt c ≠ 104 := ne_ti (by decide) k_1
  have nk_3 : Int32.toInt c ≠ 107 := ne_ti (by decide) k_3
  have nk_4 : Int32.toInt c ≠ 109 := ne_ti (by decide) k_4
  have nk_6 : Int32.toInt c ≠ 112 := ne_ti (by decide) k_6
  have nk_8 : Int32.toInt c ≠ 120 := ne_ti (by decide) k_8
  refine lv_lookup (off := 166) (tgt := 174) hx hb dX5_act_8 (by decide) (by simp [Op.lookupswitch.offset, nk_1, nk_3, nk_4, nk_6, nk_8, Ne.symm nk_1, Ne.symm nk_3, Ne.symm nk_4, Ne.symm nk_6, Ne.symm nk_8]) (by decide) ?_
  rw [← bar_c (L := (n, P, F, G)) (by assumption) (by assumption) (by assumption) (by assumption) (by assumption)] at hb0
  have hk1 := zc_0 hb0
  refine lv_aload_n hx hb dX5_act_174 rfl (lv_at hl 1 rfl) ?_
  refine va_get (D := D) (ci := 5) (v := .ref g0) (C := RX5) (T := TX5) (N := 16) hx hb hts in_X5_act_5 hown hK hP 0 rfl rfl 0 (by decide) (hts (.fieldLink RX5 7 "HoseSpansModel" "now" "[I") (List.mem_of_getElem? (i := 2) (by decide +kernel))) (fun _ h9 => h9) rfl dX5_act_175 ?_
  refine lv_iconst (v := 1) hx hb dX5_act_178 (by decide) ?_
  refine lv_dup2_11 hx hb dX5_act_179 rfl rfl ?_
  refine va_iald hx hb hK hP 1 0 rfl rfl (vp_in_nI (n := 1) (by decide) (by decide)) dX5_act_180 ?_
  refine e_n (y := (rowL (n, P, F, G)) 1) (congrArg (rowL (n, P, F, G)) (by decide)) ?_
  refine e_n (y := P) rfl ?_
  refine lv_iconst (v := 1) hx hb dX5_act_181 (by decide) ?_
  refine lv_aload_n hx hb dX5_act_182 rfl (lv_at hl 1 rfl) ?_
  refine va_get (D := D) (ci := 5) (v := .ref g0) (C := RX5) (T := TX5) (N := 16) hx hb hts in_X5_act_5 hown hK hP 0 rfl rfl 0 (by decide) (hts (.fieldLink RX5 7 "HoseSpansModel" "now" "[I") (List.mem_of_getElem? (i := 2) (by decide +kernel))) (fun _ h9 => h9) rfl dX5_act_183 ?_
  refine lv_iconst (v := 0) hx hb dX5_act_186 (by decide) ?_
  refine va_iald hx hb hK hP 1 0 rfl rfl (vp_in_nI (n := 0) (by decide) (by decide)) dX5_act_187 ?_
  refine e_n (y := (rowL (n, P, F, G)) 0) (congrArg (rowL (n, P, F, G)) (by decide)) ?_
  refine e_n (y := nI n) rfl ?_
  refine lv_ishl hx hb dX5_act_188 ?_
  refine lv_iconst (v := -1) hx hb dX5_act_189 (by decide) ?_
  refine lv_ixor hx hb dX5_act_190 ?_
  refine lv_iand hx hb dX5_act_191 ?_
  refine va_iast hx hb hK hP hD hS 1 0 rfl rfl (vp_in_nI (n := 1) (by decide) (by decide)) dX5_act_192 (fun H locs hP hD hS => ?_)
  rw [show Int32.toNatClampNeg 1 = 1 from (by decide)] at hP hD
  rw [show upd (rowL (n, P, F, G)) 1 (P &&& (((1 : Int32) <<< ((nI n) &&& 31)) ^^^ (-1))) = rowL (n, P &&& (((1 : Int32) <<< ((nI n) &&& 31)) ^^^ (-1)), F, G) from row_u1] at hP hD
  have hP : va_P D vwCl [(m0, .inr (5, [.ref g0, .ref g1, .ref g2, .int (nI ms), .ref g3, .ref g4, .int (nI N), .int (nI ax), .ref g5, .ref g6, .int fa, .int ho, .int la, .int fs, .ref g7, .ref g8])), (g0, .inl (cI, 58, .inl (rowL (n, P &&& (((1 : Int32) <<< ((nI n) &&& 31)) ^^^ (-1)), F, G)))), (g7, .inl (cI, 4, .inl sd))] H := hP
  have hD : va_D AM [(m0, .inr (5, [.ref g0, .ref g1, .ref g2, .int (nI ms), .ref g3, .ref g4, .int (nI N), .int (nI ax), .ref g5, .ref g6, .int fa, .int ho, .int la, .int fs, .ref g7, .ref g8])), (g0, .inl (cI, 58, .inl (rowL (n, P &&& (((1 : Int32) <<< ((nI n) &&& 31)) ^^^ (-1)), F, G)))), (g7, .inl (cI, 4, .inl sd))] := hD
  refine lv_aload_n hx hb dX5_act_193 rfl (lv_at hl 1 rfl) ?_
  refine va_get (D := D) (ci := 5) (v := .ref g0) (C := RX5) (T := TX5) (N := 16) hx hb hts in_X5_act_5 hown hK hP 0 rfl rfl 0 (by decide) (hts (.fieldLink RX5 7 "HoseSpansModel" "now" "[I") (List.mem_of_getElem? (i := 2) (by decide +kernel))) (fun _ h9 => h9) rfl dX5_act_194 ?_
  refine lv_iconst (v := 0) hx hb dX5_act_197 (by decide) ?_
  refine lv_dup2_11 hx hb dX5_act_198 rfl rfl ?_
  refine va_iald hx hb hK hP 1 0 rfl rfl (vp_in_nI (n := 0) (by decide) (by decide)) dX5_act_199 ?_
  refine e_n (y := (rowL (n, P &&& (((1 : Int32) <<< ((nI n) &&& 31)) ^^^ (-1)), F, G)) 0) (congrArg (rowL (n, P &&& (((1 : Int32) <<< ((nI n) &&& 31)) ^^^ (-1)), F, G)) (by decide)) ?_
  refine e_n (y := nI n) rfl ?_
  refine lv_iconst (v := 1) hx hb dX5_act_200 (by decide) ?_
  refine lv_isub hx hb dX5_act_201 ?_
  refine e_n (y := nI (n - 1)) (pk_sub (a := n) (b := 1) (by have hz : ¬ n = 0 := hk1; omega)) ?_
  refine va_iast hx hb hK hP hD hS 1 0 rfl rfl (vp_in_nI (n := 0) (by decide) (by decide)) dX5_act_202 (fun H locs hP hD hS => ?_)
  rw [show Int32.toNatClampNeg 0 = 0 from (by decide)] at hP hD
  rw [show upd (rowL (n, P &&& (((1 : Int32) <<< ((nI n) &&& 31)) ^^^ (-1)), F, G)) 0 (nI (n - 1)) = rowL (n - 1, P &&& (((1 : Int32) <<< ((nI n) &&& 31)) ^^^ (-1)), F, G) from row_u0] at hP hD
  have hP : va_P D vwCl [(m0, .inr (5, [.ref g0, .ref g1, .ref g2, .int (nI ms), .ref g3, .ref g4, .int (nI N), .int (nI ax), .ref g5, .ref g6, .int fa, .int ho, .int la, .int fs, .ref g7, .ref g8])), (g0, .inl (cI, 58, .inl (rowL (n - 1, P &&& (((1 : Int32) <<< ((nI n) &&& 31)) ^^^ (-1)), F, G)))), (g7, .inl (cI, 4, .inl sd))] H := hP
  have hD : va_D AM [(m0, .inr (5, [.ref g0, .ref g1, .ref g2, .int (nI ms), .ref g3, .ref g4, .int (nI N), .int (nI ax), .ref g5, .ref g6, .int fa, .int ho, .int la, .int fs, .ref g7, .ref g8])), (g0, .inl (cI, 58, .inl (rowL (n - 1, P &&& (((1 : Int32) <<< ((nI n) &&& 31)) ^^^ (-1)), F, G)))), (g7, .inl (cI, 4, .inl sd))] := hD
  refine lv_aload_n hx hb dX5_act_203 rfl (lv_at hl 1 rfl) ?_
  refine va_get (D := D) (ci := 5) (v := .ref g0) (C := RX5) (T := TX5) (N := 16) hx hb hts in_X5_act_5 hown hK hP 0 rfl rfl 0 (by decide) (hts (.fieldLink RX5 7 "HoseSpansModel" "now" "[I") (List.mem_of_getElem? (i := 2) (by decide +kernel))) (fun _ h9 => h9) rfl dX5_act_204 ?_
  refine lv_iconst (v := 0) hx hb dX5_act_207 (by decide) ?_
  refine va_iald hx hb hK hP 1 0 rfl rfl (vp_in_nI (n := 0) (by decide) (by decide)) dX5_act_208 ?_
  refine e_n (y := (rowL (n - 1, P &&& (((1 : Int32) <<< ((nI n) &&& 31)) ^^^ (-1)), F, G)) 0) (congrArg (rowL (n - 1, P &&& (((1 : Int32) <<< ((nI n) &&& 31)) ^^^ (-1)), F, G)) (by decide)) ?_
  refine e_n (y := nI (n - 1)) rfl ?_
  refine e_i (u := (n - 1, P &&& (bitOf (nI n) ^^^ (-1)), F, G)) hx hb hr hlocks hP hD hS dX5_act_209 ?_ ?_
  · rfl
  · rw [ord_c (by assumption) (by assumption) (by assumption) (by assumption) (by assumption)]; exact (sCut_s hk1).symm
set_option maxHeartbeats 4000000 in
set_option maxRecDepth 100000 in
theorem c_X5_call (l : Launch) (D : va_G) (cI cB cO : ClassId) (sz : Nat) (m0 g0 g1 g2 g3 g4 g5 g6 g7 g8 ms N ax : Nat) (fa ho la fs : Int32) (n : Nat) (P : Int32) (F G : Nat → Int32) (rb rn rf : Int32) (pp : Nat → Int32) (K : Nat → Ln) (sd : Nat → Int32) (c : Int32) (hL : okLn (n, P, F, G)) (hms : ms ≤ 5) (hpk : pastOk pp ms K) : CI l yX5_call wsX5_call ({ frames := 4, cells := 0, slots := 0, locals := 85 } : Room) D (tyL cI cB cO) [.ref m0, .int c] [(m0, .inr (5, [.ref g0, .ref g1, .ref g2, .int (nI ms), .ref g3, .ref g4, .int (nI N), .int (nI ax), .ref g5, .ref g6, .int fa, .int ho, .int la, .int fs, .ref g7, .ref g8])), (g0, .inl (cI, 58, .inl (rowL (n, P, F, G)))), (g7, .inl (cI, 4, .inl sd)), (g3, .inl (cI, 3, .inl (ref3 rb rn rf))), (g2, .inl (cI, 290, .inl pp))] sz (fun (ans : Int32) (u : Nat → Int32) => ans = (sOrd (n, P, F, G) c sd).1 ∧ pastOk u (fsl (sOrd (n, P, F, G) c sd).1 ms) (fK (sOrd (n, P, F, G) c sd).1 K ms (n, P, F, G))) (fun (u : Nat → Int32) => [(m0, .inr (5, [.ref g0, .ref g1, .ref g2, .int (nI (fsl (sOrd (n, P, F, G) c sd).1 ms)), .ref g3, .ref g4, .int (nI N), .int (nI ax), .ref g5, .ref g6, .int fa, .int ho, .int la, .int fs, .ref g7, .ref g8])), (g0, .inl (cI, 58, .inl (rowL (sOrd (n, P, F, G) c sd).2))), (g7, .inl (cI, 4, .inl sd)), (g3, .inl (cI, 3, .inl (ref3 (gB (sOrd (n, P, F, G) c sd).1 rb) (gN (sOrd (n, P, F, G) c sd).1 rn) (gF (sOrd (n, P, F, G) c sd).1 rf)))), (g2, .inl (cI, 290, .inl u))]) 0 0 := by
  refine ct_of (cc := cX5_call) (maxL := 3) (ret := some .int) (own := RX5) (Qc := QI D (fun (ans : Int32) (u : Nat → Int32) => ans = (sOrd (n, P, F, G) c sd).1 ∧ pastOk u (fsl (sOrd (n, P, F, G) c sd).1 ms) (fK (sOrd (n, P, F, G) c sd).1 K ms (n, P, F, G))) (fun (u : Nat → Int32) => [(m0, .inr (5, [.ref g0, .ref g1, .ref g2, .int (nI (fsl (sOrd (n, P, F, G) c sd).1 ms)), .ref g3, .ref g4, .int (nI N), .int (nI ax), .ref g5, .ref g6, .int fa, .int ho, .int la, .int fs, .ref g7, .ref g8])), (g0, .inl (cI, 58, .inl (rowL (sOrd (n, P, F, G) c sd).2))), (g7, .inl (cI, 4, .inl sd)), (g3, .inl (cI, 3, .inl (ref3 (gB (sOrd (n, P, F, G) c sd).1 rb) (gN (sOrd (n, P, F, G) c sd).1 rn) (gF (sOrd (n, P, F, G) c sd).1 rf)))), (g2, .inl (cI, 290, .inl u))])) (by decide) rfl rfl (Nat.le_of_ble_eq_true rfl) ?_
  intro pM eM sM mM below meth cM AM ls H locs hx hb hr hts hown hlocks hml hin hK hP hD hS hA hSt hl
  have hl : lv_has ls 3 [(0, .ref m0), (1, .int c)] := hl
  refine lv_aload_n hx hb dX5_call_0 rfl (lv_at hl 0 rfl) ?_
  refine lv_iload_n hx hb dX5_call_1 rfl (lv_at hl 1 rfl) ?_
  refine k_i (va_runV (As := [.int c]) (rest := []) ⟨hx, hb, hml, hown, hts⟩ (c_X5_barOf l D cI cB cO H.size m0 g0 g1 g2 g3 g4 g5 g6 g7 g8 ms N ax fa ho la fs n P F G sd c (by first | assumption | omega | exact hL.1 | exact hL.2.1)) (cwV 1 hts gX5_call_X5_barOf rfl rfl rfl (by decide +kernel) ⟨Nat.le_of_ble_eq_true rfl, Nat.le_of_ble_eq_true rfl⟩) (preV_of hK hP hD hS hA hSt [0, 1, 2] (by decide) rfl 0 (ci := 5) rfl rfl) rfl rfl hl.1 rfl (lv_room (Nat.le_of_ble_eq_true rfl)) dX5_call_2 ⟨Nat.le_of_ble_eq_true rfl, Nat.le_of_ble_eq_true rfl⟩) hP hD hS hA [0, 1, 2] [3, 4] [2, 3, 4, 0, 1] [(g3, .inl (cI, 3, .inl (ref3 rb rn rf))), (g2, .inl (cI, 290, .inl pp))] (fun (u_1 : Unit) => [(m0, .inr (5, [.ref g0, .ref g1, .ref g2, .int (nI ms), .ref g3, .ref g4, .int (nI N), .int (nI ax), .ref g5, .ref g6, .int fa, .int ho, .int la, .int fs, .ref g7, .ref g8])), (g0, .inl (cI, 58, .inl (rowL (n, P, F, G)))), (g7, .inl (cI, 4, .inl sd)), (g3, .inl (cI, 3, .inl (ref3 rb rn rf))), (g2, .inl (cI, 290, .inl pp))]) rfl rfl (by decide) (by decide) (by decide) (fun _ => rfl) (fun r_1 u_1 H locs q_1 hP hD hS => ?_)
  obtain rfl : r_1 = barF (n, P, F, G) c sd := q_1
  refine lv_istore_n (lv' := [(2, .int (barF (n, P, F, G) c sd)), (0, .ref m0), (1, .int c)]) hx hb dX5_call_5 rfl hl (by decide) rfl (fun ls hl => ?_)
  refine lv_iload_n hx hb dX5_call_6 rfl (lv_at hl 0 rfl) ?_
  refine lv_if_eq (tgt := 16) hx hb dX5_call_7 (by decide) (fun c_2 => ?_) (fun c_2 => ?_)
  · have hb0 := c_2
    have hnr := bar_no hL hb0
    refine lv_aload_n hx hb dX5_call_16 rfl (lv_at hl 1 rfl) ?_
    refine k_v (va_runV (As := []) (rest := []) ⟨hx, hb, hml, hown, hts⟩ (c_X5_note l D cI cB cO H.size m0 g0 g1 g2 g3 g4 g5 g6 g7 g8 ms N ax fa ho la fs n P F G pp K (by first | assumption | omega | exact hL.1 | exact hL.2.1) (by first | assumption | omega | exact hL.1 | exact hL.2.1)) (cwV 0 hts gX5_call_X5_note rfl rfl rfl (by decide +kernel) ⟨Nat.le_of_ble_eq_true rfl, Nat.le_of_ble_eq_true rfl⟩) (preV_of hK hP hD hS hA hSt [0, 1, 4] (by decide) rfl 0 (ci := 5) rfl rfl) rfl rfl hl.1 rfl (lv_room (Nat.le_of_ble_eq_true rfl)) dX5_call_17 ⟨Nat.le_of_ble_eq_true rfl, Nat.le_of_ble_eq_true rfl⟩) hP hD hS hA [0, 1, 4] [2, 3] [2, 3, 0, 1, 4] [(g7, .inl (cI, 4, .inl sd)), (g3, .inl (cI, 3, .inl (ref3 rb rn rf)))] (fun (u_3 : Nat → Int32) => [(m0, .inr (5, [.ref g0, .ref g1, .ref g2, .int (nI (min (ms + 1) 5)), .ref g3, .ref g4, .int (nI N), .int (nI ax), .ref g5, .ref g6, .int fa, .int ho, .int la, .int fs, .ref g7, .ref g8])), (g0, .inl (cI, 58, .inl (rowL (n, P, F, G)))), (g7, .inl (cI, 4, .inl sd)), (g3, .inl (cI, 3, .inl (ref3 rb rn rf))), (g2, .inl (cI, 290, .inl u_3))]) rfl rfl (by decide) (by decide) (by decide) (fun _ => rfl) (fun u_3 H locs q_3 hP hD hS => ?_)
    refine lv_aload_n hx hb dX5_call_20 rfl (lv_at hl 1 rfl) ?_
    refine lv_iload_n hx hb dX5_call_21 rfl (lv_at hl 2 rfl) ?_
    refine k_i (va_runV (As := [.int c]) (rest := []) ⟨hx, hb, hml, hown, hts⟩ (c_X5_act l D cI cB cO H.size m0 g0 g1 g2 g3 g4 g5 g6 g7 g8 (min (ms + 1) 5) N ax fa ho la fs n P F G sd c (by first | assumption | omega | exact hL.1 | exact hL.2.1) (by first | assumption | omega | exact hL.1 | exact hL.2.1) (by first | assumption | omega | exact hL.1 | exact hL.2.1)) (cwV 1 hts gX5_call_X5_act rfl rfl rfl (by decide +kernel) ⟨Nat.le_of_ble_eq_true rfl, Nat.le_of_ble_eq_true rfl⟩) (preV_of hK hP hD hS hA hSt [0, 1, 2] (by decide) rfl 0 (ci := 5) rfl rfl) rfl rfl hl.1 rfl (lv_room (Nat.le_of_ble_eq_true rfl)) dX5_call_22 ⟨Nat.le_of_ble_eq_true rfl, Nat.le_of_ble_eq_true rfl⟩) hP hD hS hA [0, 1, 2] [3, 4] [2, 3, 4, 0, 1] [(g3, .inl (cI, 3, .inl (ref3 rb rn rf))), (g2, .inl (cI, 290, .inl u_3))] (fun (u_4 : Ln) => [(m0, .inr (5, [.ref g0, .ref g1, .ref g2, .int (nI (min (ms + 1) 5)), .ref g3, .ref g4, .int (nI N), .int (nI ax), .ref g5, .ref g6, .int fa, .int ho, .int la, .int fs, .ref g7, .ref g8])), (g0, .inl (cI, 58, .inl (rowL u_4))), (g7, .inl (cI, 4, .inl sd)), (g3, .inl (cI, 3, .inl (ref3 rb rn rf))), (g2, .inl (cI, 290, .inl u_3))]) rfl rfl (by decide) (by decide) (by decide) (fun _ => rfl) (fun r_4 u_4 H locs q_4 hP hD hS => ?_)
    obtain ⟨rfl, rfl⟩ : r_4 = (sOrd (n, P, F, G) c sd).1 ∧ u_4 = (sOrd (n, P, F, G) c sd).2 := ⟨congrArg Prod.fst q_4, congrArg Prod.snd q_4⟩
    refine e_i (u := u_3) hx hb hr hlocks hP hD hS dX5_call_25 ?_ ?_
    · rw [fsl_n hnr, gB_n hnr, gN_n hnr, gF_n hnr]
    · exact ⟨rfl, by rw [fsl_n hnr, fK_n hnr]; assumption⟩
  · obtain ⟨hso, hrf⟩ := bar_ref hL c_2
    refine lv_aload_n hx hb dX5_call_10 rfl (lv_at hl 1 rfl) ?_
    refine lv_iload_n hx hb dX5_call_11 rfl (lv_at hl 0 rfl) ?_
    refine k_i (va_runV (As := [.int (barF (n, P, F, G) c sd)]) (rest := []) ⟨hx, hb, hml, hown, hts⟩ (c_X5_refuse l D cI cB cO H.size m0 g0 g1 g2 g3 g4 g5 g6 g7 g8 ms N ax fa ho la fs rb rn rf (barF (n, P, F, G) c sd) (by exact hrf)) (cwV 1 hts gX5_call_X5_refuse rfl rfl rfl (by decide +kernel) ⟨Nat.le_of_ble_eq_true rfl, Nat.le_of_ble_eq_true rfl⟩) (preV_of hK hP hD hS hA hSt [0, 3] (by decide) rfl 0 (ci := 5) rfl rfl) rfl rfl hl.1 rfl (lv_room (Nat.le_of_ble_eq_true rfl)) dX5_call_12 ⟨Nat.le_of_ble_eq_true rfl, Nat.le_of_ble_eq_true rfl⟩) hP hD hS hA [0, 3] [1, 2, 4] [3, 0, 1, 4, 2] [(g0, .inl (cI, 58, .inl (rowL (n, P, F, G)))), (g7, .inl (cI, 4, .inl sd)), (g2, .inl (cI, 290, .inl pp))] (fun (u_5 : Unit) => [(m0, .inr (5, [.ref g0, .ref g1, .ref g2, .int (nI ms), .ref g3, .ref g4, .int (nI N), .int (nI ax), .ref g5, .ref g6, .int fa, .int ho, .int la, .int fs, .ref g7, .ref g8])), (g0, .inl (cI, 58, .inl (rowL (n, P, F, G)))), (g7, .inl (cI, 4, .inl sd)), (g3, .inl (cI, 3, .inl (ref3 (uB (barF (n, P, F, G) c sd) rb) (uN (barF (n, P, F, G) c sd) rn) (uF (barF (n, P, F, G) c sd) rf)))), (g2, .inl (cI, 290, .inl pp))]) rfl rfl (by decide) (by decide) (by decide) (fun _ => rfl) (fun r_5 u_5 H locs q_5 hP hD hS => ?_)
    obtain rfl : r_5 = barF (n, P, F, G) c sd := q_5
    refine e_i (u := pp) hx hb hr hlocks hP hD hS dX5_call_15 ?_ ?_
    · rw [hso]; simp only [fsl_r hrf, gB_r hrf, gN_r hrf, gF_r hrf]
    · rw [hso]; exact ⟨rfl, by rw [fsl_r hrf, fK_r hrf]; exact hpk⟩
set_option maxHeartbeats 4000000 in
set_option maxRecDepth 100000 in
theorem c_X5_span (l : Launch) (D : va_G) (cI cB cO : ClassId) (sz : Nat) (m0 g0 g1 g2 g3 g4 g5 g6 g7 g8 ms N ax : Nat) (fa ho la fs : Int32) (n : Nat) (P : Int32) (F G : Nat → Int32) (rb rn rf : Int32) (pp : Nat → Int32) (K : Nat → Ln) (sd : Nat → Int32) (x y z t : Int32) (hL : okLn (n, P, F, G)) (hms : ms ≤ 5) (hpk : pastOk pp ms K) : CI l yX5_span wsX5_span ({ frames := 5, cells := 0, slots := 0, locals := 107 } : Room) D (tyL cI cB cO) [.ref m0, .int x, .int y, .int z, .int t] [(m0, .inr (5, [.ref g0, .ref g1, .ref g2, .int (nI ms), .ref g3, .ref g4, .int (nI N), .int (nI ax), .ref g5, .ref g6, .int fa, .int ho, .int la, .int fs, .ref g7, .ref g8])), (g0, .inl (cI, 58, .inl (rowL (n, P, F, G)))), (g7, .inl (cI, 4, .inl sd)), (g3, .inl (cI, 3, .inl (ref3 rb rn rf))), (g2, .inl (cI, 290, .inl pp))] sz (fun (ans : Int32) (u : (Nat → Int32) × (Nat → Int32)) => ans = (sSpan (n, P, F, G) x y z t).1 ∧ pastOk u.1 (fsl (sSpan (n, P, F, G) x y z t).1 ms) (fK (sSpan (n, P, F, G) x y z t).1 K ms (n, P, F, G))) (fun (u : (Nat → Int32) × (Nat → Int32)) => [(m0, .inr (5, [.ref g0, .ref g1, .ref g2, .int (nI (fsl (sSpan (n, P, F, G) x y z t).1 ms)), .ref g3, .ref g4, .int (nI N), .int (nI ax), .ref g5, .ref g6, .int fa, .int ho, .int la, .int fs, .ref g7, .ref g8])), (g0, .inl (cI, 58, .inl (rowL (sSpan (n, P, F, G) x y z t).2))), (g7, .inl (cI, 4, .inl u.2)), (g3, .inl (cI, 3, .inl (ref3 (gB (sSpan (n, P, F, G) x y z t).1 rb) (gN (sSpan (n, P, F, G) x y z t).1 rn) (gF (sSpan (n, P, F, G) x y z t).1 rf)))), (g2, .inl (cI, 290, .inl u.1))]) 0 0 := by
  refine ct_of (cc := cX5_span) (maxL := 5) (ret := some .int) (own := RX5) (Qc := QI D (fun (ans : Int32) (u : (Nat → Int32) × (Nat → Int32)) => ans = (sSpan (n, P, F, G) x y z t).1 ∧ pastOk u.1 (fsl (sSpan (n, P, F, G) x y z t).1 ms) (fK (sSpan (n, P, F, G) x y z t).1 K ms (n, P, F, G))) (fun (u : (Nat → Int32) × (Nat → Int32)) => [(m0, .inr (5, [.ref g0, .ref g1, .ref g2, .int (nI (fsl (sSpan (n, P, F, G) x y z t).1 ms)), .ref g3, .ref g4, .int (nI N), .int (nI ax), .ref g5, .ref g6, .int fa, .int ho, .int la, .int fs, .ref g7, .ref g8])), (g0, .inl (cI, 58, .inl (rowL (sSpan (n, P, F, G) x y z t).2))), (g7, .inl (cI, 4, .inl u.2)), (g3, .inl (cI, 3, .inl (ref3 (gB (sSpan (n, P, F, G) x y z t).1 rb) (gN (sSpan (n, P, F, G) x y z t).1 rn) (gF (sSpan (n, P, F, G) x y z t).1 rf)))), (g2, .inl (cI, 290, .inl u.1))])) (by decide) rfl rfl (Nat.le_of_ble_eq_true rfl) ?_
  intro pM eM sM mM below meth cM AM ls H locs hx hb hr hts hown hlocks hml hin hK hP hD hS hA hSt hl
  have hl : lv_has ls 5 [(0, .ref m0), (1, .int x), (2, .int y), (3, .int z), (4, .int t)] := hl
  refine lv_aload_n hx hb dX5_span_0 rfl (lv_at hl 0 rfl) ?_
  refine lv_iload_n hx hb dX5_span_1 rfl (lv_at hl 1 rfl) ?_
  refine lv_iload_n hx hb dX5_span_2 rfl (lv_at hl 2 rfl) ?_
  refine lv_iload_n hx hb dX5_span_3 rfl (lv_at hl 3 rfl) ?_
  refine lv_iload hx hb dX5_span_4 (lv_at hl 4 rfl) ?_
  refine k_v (va_runV (As := [.int x, .int y, .int z, .int t]) (rest := []) ⟨hx, hb, hml, hown, hts⟩ (c_X5_say l D cI cB cO H.size m0 g0 g1 g2 g3 g4 g5 g6 g7 g8 ms N ax fa ho la fs sd x y z t ) (cwV 4 hts gX5_span_X5_say rfl rfl rfl (by decide +kernel) ⟨Nat.le_of_ble_eq_true rfl, Nat.le_of_ble_eq_true rfl⟩) (preV_of hK hP hD hS hA hSt [0, 2] (by decide) rfl 0 (ci := 5) rfl rfl) rfl rfl hl.1 rfl (lv_room (Nat.le_of_ble_eq_true rfl)) dX5_span_6 ⟨Nat.le_of_ble_eq_true rfl, Nat.le_of_ble_eq_true rfl⟩) hP hD hS hA [0, 2] [1, 3, 4] [3, 0, 4, 1, 2] [(g0, .inl (cI, 58, .inl (rowL (n, P, F, G)))), (g3, .inl (cI, 3, .inl (ref3 rb rn rf))), (g2, .inl (cI, 290, .inl pp))] (fun (u_1 : Unit) => [(m0, .inr (5, [.ref g0, .ref g1, .ref g2, .int (nI ms), .ref g3, .ref g4, .int (nI N), .int (nI ax), .ref g5, .ref g6, .int fa, .int ho, .int la, .int fs, .ref g7, .ref g8])), (g0, .inl (cI, 58, .inl (rowL (n, P, F, G)))), (g7, .inl (cI, 4, .inl (sd4 x y z t))), (g3, .inl (cI, 3, .inl (ref3 rb rn rf))), (g2, .inl (cI, 290, .inl pp))]) rfl rfl (by decide) (by decide) (by decide) (fun _ => rfl) (fun u_1 H locs q_1 hP hD hS => ?_)
  refine lv_aload_n hx hb dX5_span_9 rfl (lv_at hl 0 rfl) ?_
  refine lv_bipush (v := 104) hx hb dX5_span_10 (by decide) ?_
  refine k_i (va_runV (As := [.int 104]) (rest := []) ⟨hx, hb, hml, hown, hts⟩ (c_X5_call l D cI cB cO H.size m0 g0 g1 g2 g3 g4 g5 g6 g7 g8 ms N ax fa ho la fs n P F G rb rn rf pp K (sd4 x y z t) 104 (by first | assumption | omega) (by first | assumption | omega) (by first | assumption | omega)) (cwV 1 hts gX5_span_X5_call rfl rfl rfl (by decide +kernel) ⟨Nat.le_of_ble_eq_true rfl, Nat.le_of_ble_eq_true rfl⟩) (preV_of hK hP hD hS hA hSt [0, 1, 2, 3, 4] (by decide) rfl 0 (ci := 5) rfl rfl) rfl rfl hl.1 rfl (lv_room (Nat.le_of_ble_eq_true rfl)) dX5_span_12 ⟨Nat.le_of_ble_eq_true rfl, Nat.le_of_ble_eq_true rfl⟩) hP hD hS hA [0, 1, 2, 3, 4] [] [0, 1, 2, 3, 4] [] (fun (u_2 : Nat → Int32) => [(m0, .inr (5, [.ref g0, .ref g1, .ref g2, .int (nI (fsl (sOrd (n, P, F, G) 104 (sd4 x y z t)).1 ms)), .ref g3, .ref g4, .int (nI N), .int (nI ax), .ref g5, .ref g6, .int fa, .int ho, .int la, .int fs, .ref g7, .ref g8])), (g0, .inl (cI, 58, .inl (rowL (sOrd (n, P, F, G) 104 (sd4 x y z t)).2))), (g7, .inl (cI, 4, .inl (sd4 x y z t))), (g3, .inl (cI, 3, .inl (ref3 (gB (sOrd (n, P, F, G) 104 (sd4 x y z t)).1 rb) (gN (sOrd (n, P, F, G) 104 (sd4 x y z t)).1 rn) (gF (sOrd (n, P, F, G) 104 (sd4 x y z t)).1 rf)))), (g2, .inl (cI, 290, .inl u_2))]) rfl rfl (by decide) (by decide) (by decide) (fun _ => rfl) (fun r_2 u_2 H locs q_2 hP hD hS => ?_)
  obtain ⟨rfl, hpk2⟩ := q_2
  refine e_i (u := (u_2, (sd4 x y z t))) hx hb hr hlocks hP hD hS dX5_span_15 ?_ ?_
  · rw [show (sOrd (n, P, F, G) 104 (sd4 x y z t)) = (sSpan (n, P, F, G) x y z t) from ord_104 rfl]
  · have heq : (sOrd (n, P, F, G) 104 (sd4 x y z t)) = (sSpan (n, P, F, G) x y z t) := ord_104 rfl
    rw [heq] at hpk2
    exact ⟨congrArg Prod.fst heq, hpk2⟩
set_option maxHeartbeats 4000000 in
set_option maxRecDepth 100000 in
theorem c_X5_cuts (l : Launch) (D : va_G) (cI cB cO : ClassId) (sz : Nat) (m0 g0 g1 g2 g3 g4 g5 g6 g7 g8 ms N ax : Nat) (fa ho la fs : Int32) (n : Nat) (P : Int32) (F G : Nat → Int32) (rb rn rf : Int32) (pp : Nat → Int32) (K : Nat → Ln) (sd : Nat → Int32) (hL : okLn (n, P, F, G)) (hms : ms ≤ 5) (hpk : pastOk pp ms K) : CI l yX5_cuts wsX5_cuts ({ frames := 5, cells := 0, slots := 0, locals := 107 } : Room) D (tyL cI cB cO) [.ref m0] [(m0, .inr (5, [.ref g0, .ref g1, .ref g2, .int (nI ms), .ref g3, .ref g4, .int (nI N), .int (nI ax), .ref g5, .ref g6, .int fa, .int ho, .int la, .int fs, .ref g7, .ref g8])), (g0, .inl (cI, 58, .inl (rowL (n, P, F, G)))), (g7, .inl (cI, 4, .inl sd)), (g3, .inl (cI, 3, .inl (ref3 rb rn rf))), (g2, .inl (cI, 290, .inl pp))] sz (fun (ans : Int32) (u : (Nat → Int32) × (Nat → Int32)) => ans = (sCut (n, P, F, G)).1 ∧ pastOk u.1 (fsl (sCut (n, P, F, G)).1 ms) (fK (sCut (n, P, F, G)).1 K ms (n, P, F, G))) (fun (u : (Nat → Int32) × (Nat → Int32)) => [(m0, .inr (5, [.ref g0, .ref g1, .ref g2, .int (nI (fsl (sCut (n, P, F, G)).1 ms)), .ref g3, .ref g4, .int (nI N), .int (nI ax), .ref g5, .ref g6, .int fa, .int ho, .int la, .int fs, .ref g7, .ref g8])), (g0, .inl (cI, 58, .inl (rowL (sCut (n, P, F, G)).2))), (g7, .inl (cI, 4, .inl u.2)), (g3, .inl (cI, 3, .inl (ref3 (gB (sCut (n, P, F, G)).1 rb) (gN (sCut (n, P, F, G)).1 rn) (gF (sCut (n, P, F, G)).1 rf)))), (g2, .inl (cI, 290, .inl u.1))]) 0 0 := by
  refine ct_of (cc := cX5_cuts) (maxL := 1) (ret := some .int) (own := RX5) (Qc := QI D (fun (ans : Int32) (u : (Nat → Int32) × (Nat → Int32)) => ans = (sCut (n, P, F, G)).1 ∧ pastOk u.1 (fsl (sCut (n, P, F, G)).1 ms) (fK (sCut (n, P, F, G)).1 K ms (n, P, F, G))) (fun (u : (Nat → Int32) × (Nat → Int32)) => [(m0, .inr (5, [.ref g0, .ref g1, .ref g2, .int (nI (fsl (sCut (n, P, F, G)).1 ms)), .ref g3, .ref g4, .int (nI N), .int (nI ax), .ref g5, .ref g6, .int fa, .int ho, .int la, .int fs, .ref g7, .ref g8])), (g0, .inl (cI, 58, .inl (rowL (sCut (n, P, F, G)).2))), (g7, .inl (cI, 4, .inl u.2)), (g3, .inl (cI, 3, .inl (ref3 (gB (sCut (n, P, F, G)).1 rb) (gN (sCut (n, P, F, G)).1 rn) (gF (sCut (n, P, F, G)).1 rf)))), (g2, .inl (cI, 290, .inl u.1))])) (by decide) rfl rfl (Nat.le_of_ble_eq_true rfl) ?_
  intro pM eM sM mM below meth cM AM ls H locs hx hb hr hts hown hlocks hml hin hK hP hD hS hA hSt hl
  have hl : lv_has ls 1 [(0, .ref m0)] := hl
  refine lv_aload_n hx hb dX5_cuts_0 rfl (lv_at hl 0 rfl) ?_
  refine lv_bipush (v := 99) hx hb dX5_cuts_1 (by decide) ?_
  refine k_i (va_runV (As := [.int 99]) (rest := []) ⟨hx, hb, hml, hown, hts⟩ (c_X5_call l D cI cB cO H.size m0 g0 g1 g2 g3 g4 g5 g6 g7 g8 ms N ax fa ho la fs n P F G rb rn rf pp K sd 99 (by first | assumption | omega) (by first | assumption | omega) (by first | assumption | omega)) (cwV 1 hts gX5_cuts_X5_call rfl rfl rfl (by decide +kernel) ⟨Nat.le_of_ble_eq_true rfl, Nat.le_of_ble_eq_true rfl⟩) (preV_of hK hP hD hS hA hSt [0, 1, 2, 3, 4] (by decide) rfl 0 (ci := 5) rfl rfl) rfl rfl hl.1 rfl (lv_room (Nat.le_of_ble_eq_true rfl)) dX5_cuts_3 ⟨Nat.le_of_ble_eq_true rfl, Nat.le_of_ble_eq_true rfl⟩) hP hD hS hA [0, 1, 2, 3, 4] [] [0, 1, 2, 3, 4] [] (fun (u_1 : Nat → Int32) => [(m0, .inr (5, [.ref g0, .ref g1, .ref g2, .int (nI (fsl (sOrd (n, P, F, G) 99 sd).1 ms)), .ref g3, .ref g4, .int (nI N), .int (nI ax), .ref g5, .ref g6, .int fa, .int ho, .int la, .int fs, .ref g7, .ref g8])), (g0, .inl (cI, 58, .inl (rowL (sOrd (n, P, F, G) 99 sd).2))), (g7, .inl (cI, 4, .inl sd)), (g3, .inl (cI, 3, .inl (ref3 (gB (sOrd (n, P, F, G) 99 sd).1 rb) (gN (sOrd (n, P, F, G) 99 sd).1 rn) (gF (sOrd (n, P, F, G) 99 sd).1 rf)))), (g2, .inl (cI, 290, .inl u_1))]) rfl rfl (by decide) (by decide) (by decide) (fun _ => rfl) (fun r_1 u_1 H locs q_1 hP hD hS => ?_)
  obtain ⟨rfl, hpk2⟩ := q_1
  refine e_i (u := (u_1, sd)) hx hb hr hlocks hP hD hS dX5_cuts_6 ?_ ?_
  · rw [show (sOrd (n, P, F, G) 99 sd) = (sCut (n, P, F, G)) from ord_c (by decide) (by decide) (by decide) (by decide) (by decide)]
  · have heq : (sOrd (n, P, F, G) 99 sd) = (sCut (n, P, F, G)) := ord_c (by decide) (by decide) (by decide) (by decide) (by decide)
    rw [heq] at hpk2
    exact ⟨congrArg Prod.fst heq, hpk2⟩
set_option maxHeartbeats 4000000 in
set_option maxRecDepth 100000 in
theorem c_X5_sets (l : Launch) (D : va_G) (cI cB cO : ClassId) (sz : Nat) (m0 g0 g1 g2 g3 g4 g5 g6 g7 g8 ms N ax : Nat) (fa ho la fs : Int32) (n : Nat) (P : Int32) (F G : Nat → Int32) (rb rn rf : Int32) (pp : Nat → Int32) (K : Nat → Ln) (sd : Nat → Int32) (x y : Int32) (hL : okLn (n, P, F, G)) (hms : ms ≤ 5) (hpk : pastOk pp ms K) : CI l yX5_sets wsX5_sets ({ frames := 5, cells := 0, slots := 0, locals := 107 } : Room) D (tyL cI cB cO) [.ref m0, .int x, .int y] [(m0, .inr (5, [.ref g0, .ref g1, .ref g2, .int (nI ms), .ref g3, .ref g4, .int (nI N), .int (nI ax), .ref g5, .ref g6, .int fa, .int ho, .int la, .int fs, .ref g7, .ref g8])), (g0, .inl (cI, 58, .inl (rowL (n, P, F, G)))), (g7, .inl (cI, 4, .inl sd)), (g3, .inl (cI, 3, .inl (ref3 rb rn rf))), (g2, .inl (cI, 290, .inl pp))] sz (fun (ans : Int32) (u : (Nat → Int32) × (Nat → Int32)) => ans = (sSet (n, P, F, G) x y).1 ∧ pastOk u.1 (fsl (sSet (n, P, F, G) x y).1 ms) (fK (sSet (n, P, F, G) x y).1 K ms (n, P, F, G))) (fun (u : (Nat → Int32) × (Nat → Int32)) => [(m0, .inr (5, [.ref g0, .ref g1, .ref g2, .int (nI (fsl (sSet (n, P, F, G) x y).1 ms)), .ref g3, .ref g4, .int (nI N), .int (nI ax), .ref g5, .ref g6, .int fa, .int ho, .int la, .int fs, .ref g7, .ref g8])), (g0, .inl (cI, 58, .inl (rowL (sSet (n, P, F, G) x y).2))), (g7, .inl (cI, 4, .inl u.2)), (g3, .inl (cI, 3, .inl (ref3 (gB (sSet (n, P, F, G) x y).1 rb) (gN (sSet (n, P, F, G) x y).1 rn) (gF (sSet (n, P, F, G) x y).1 rf)))), (g2, .inl (cI, 290, .inl u.1))]) 0 0 := by
  refine ct_of (cc := cX5_sets) (maxL := 3) (ret := some .int) (own := RX5) (Qc := QI D (fun (ans : Int32) (u : (Nat → Int32) × (Nat → Int32)) => ans = (sSet (n, P, F, G) x y).1 ∧ pastOk u.1 (fsl (sSet (n, P, F, G) x y).1 ms) (fK (sSet (n, P, F, G) x y).1 K ms (n, P, F, G))) (fun (u : (Nat → Int32) × (Nat → Int32)) => [(m0, .inr (5, [.ref g0, .ref g1, .ref g2, .int (nI (fsl (sSet (n, P, F, G) x y).1 ms)), .ref g3, .ref g4, .int (nI N), .int (nI ax), .ref g5, .ref g6, .int fa, .int ho, .int la, .int fs, .ref g7, .ref g8])), (g0, .inl (cI, 58, .inl (rowL (sSet (n, P, F, G) x y).2))), (g7, .inl (cI, 4, .inl u.2)), (g3, .inl (cI, 3, .inl (ref3 (gB (sSet (n, P, F, G) x y).1 rb) (gN (sSet (n, P, F, G) x y).1 rn) (gF (sSet (n, P, F, G) x y).1 rf)))), (g2, .inl (cI, 290, .inl u.1))])) (by decide) rfl rfl (Nat.le_of_ble_eq_true rfl) ?_
  intro pM eM sM mM below meth cM AM ls H locs hx hb hr hts hown hlocks hml hin hK hP hD hS hA hSt hl
  have hl : lv_has ls 3 [(0, .ref m0), (1, .int x), (2, .int y)] := hl
  refine lv_aload_n hx hb dX5_sets_0 rfl (lv_at hl 0 rfl) ?_
  refine lv_iload_n hx hb dX5_sets_1 rfl (lv_at hl 1 rfl) ?_
  refine lv_iload_n hx hb dX5_sets_2 rfl (lv_at hl 2 rfl) ?_
  refine lv_iconst (v := 0) hx hb dX5_sets_3 (by decide) ?_
  refine lv_iconst (v := 0) hx hb dX5_sets_4 (by decide) ?_
  refine k_v (va_runV (As := [.int x, .int y, .int 0, .int 0]) (rest := []) ⟨hx, hb, hml, hown, hts⟩ (c_X5_say l D cI cB cO H.size m0 g0 g1 g2 g3 g4 g5 g6 g7 g8 ms N ax fa ho la fs sd x y 0 0 ) (cwV 4 hts gX5_sets_X5_say rfl rfl rfl (by decide +kernel) ⟨Nat.le_of_ble_eq_true rfl, Nat.le_of_ble_eq_true rfl⟩) (preV_of hK hP hD hS hA hSt [0, 2] (by decide) rfl 0 (ci := 5) rfl rfl) rfl rfl hl.1 rfl (lv_room (Nat.le_of_ble_eq_true rfl)) dX5_sets_5 ⟨Nat.le_of_ble_eq_true rfl, Nat.le_of_ble_eq_true rfl⟩) hP hD hS hA [0, 2] [1, 3, 4] [3, 0, 4, 1, 2] [(g0, .inl (cI, 58, .inl (rowL (n, P, F, G)))), (g3, .inl (cI, 3, .inl (ref3 rb rn rf))), (g2, .inl (cI, 290, .inl pp))] (fun (u_1 : Unit) => [(m0, .inr (5, [.ref g0, .ref g1, .ref g2, .int (nI ms), .ref g3, .ref g4, .int (nI N), .int (nI ax), .ref g5, .ref g6, .int fa, .int ho, .int la, .int fs, .ref g7, .ref g8])), (g0, .inl (cI, 58, .inl (rowL (n, P, F, G)))), (g7, .inl (cI, 4, .inl (sd4 x y 0 0))), (g3, .inl (cI, 3, .inl (ref3 rb rn rf))), (g2, .inl (cI, 290, .inl pp))]) rfl rfl (by decide) (by decide) (by decide) (fun _ => rfl) (fun u_1 H locs q_1 hP hD hS => ?_)
  refine lv_aload_n hx hb dX5_sets_8 rfl (lv_at hl 0 rfl) ?_
  refine lv_bipush (v := 107) hx hb dX5_sets_9 (by decide) ?_
  refine k_i (va_runV (As := [.int 107]) (rest := []) ⟨hx, hb, hml, hown, hts⟩ (c_X5_call l D cI cB cO H.size m0 g0 g1 g2 g3 g4 g5 g6 g7 g8 ms N ax fa ho la fs n P F G rb rn rf pp K (sd4 x y 0 0) 107 (by first | assumption | omega) (by first | assumption | omega) (by first | assumption | omega)) (cwV 1 hts gX5_sets_X5_call rfl rfl rfl (by decide +kernel) ⟨Nat.le_of_ble_eq_true rfl, Nat.le_of_ble_eq_true rfl⟩) (preV_of hK hP hD hS hA hSt [0, 1, 2, 3, 4] (by decide) rfl 0 (ci := 5) rfl rfl) rfl rfl hl.1 rfl (lv_room (Nat.le_of_ble_eq_true rfl)) dX5_sets_11 ⟨Nat.le_of_ble_eq_true rfl, Nat.le_of_ble_eq_true rfl⟩) hP hD hS hA [0, 1, 2, 3, 4] [] [0, 1, 2, 3, 4] [] (fun (u_2 : Nat → Int32) => [(m0, .inr (5, [.ref g0, .ref g1, .ref g2, .int (nI (fsl (sOrd (n, P, F, G) 107 (sd4 x y 0 0)).1 ms)), .ref g3, .ref g4, .int (nI N), .int (nI ax), .ref g5, .ref g6, .int fa, .int ho, .int la, .int fs, .ref g7, .ref g8])), (g0, .inl (cI, 58, .inl (rowL (sOrd (n, P, F, G) 107 (sd4 x y 0 0)).2))), (g7, .inl (cI, 4, .inl (sd4 x y 0 0))), (g3, .inl (cI, 3, .inl (ref3 (gB (sOrd (n, P, F, G) 107 (sd4 x y 0 0)).1 rb) (gN (sOrd (n, P, F, G) 107 (sd4 x y 0 0)).1 rn) (gF (sOrd (n, P, F, G) 107 (sd4 x y 0 0)).1 rf)))), (g2, .inl (cI, 290, .inl u_2))]) rfl rfl (by decide) (by decide) (by decide) (fun _ => rfl) (fun r_2 u_2 H locs q_2 hP hD hS => ?_)
  obtain ⟨rfl, hpk2⟩ := q_2
  refine e_i (u := (u_2, (sd4 x y 0 0))) hx hb hr hlocks hP hD hS dX5_sets_14 ?_ ?_
  · rw [show (sOrd (n, P, F, G) 107 (sd4 x y 0 0)) = (sSet (n, P, F, G) x y) from ord_107 (by decide) rfl]
  · have heq : (sOrd (n, P, F, G) 107 (sd4 x y 0 0)) = (sSet (n, P, F, G) x y) := ord_107 (by decide) rfl
    rw [heq] at hpk2
    exact ⟨congrArg Prod.fst heq, hpk2⟩
set_option maxHeartbeats 4000000 in
set_option maxRecDepth 100000 in
theorem c_X5_pumps (l : Launch) (D : va_G) (cI cB cO : ClassId) (sz : Nat) (m0 g0 g1 g2 g3 g4 g5 g6 g7 g8 ms N ax : Nat) (fa ho la fs : Int32) (n : Nat) (P : Int32) (F G : Nat → Int32) (rb rn rf : Int32) (pp : Nat → Int32) (K : Nat → Ln) (sd : Nat → Int32) (x : Int32) (hL : okLn (n, P, F, G)) (hms : ms ≤ 5) (hpk : pastOk pp ms K) : CI l yX5_pumps wsX5_pumps ({ frames := 5, cells := 0, slots := 0, locals := 107 } : Room) D (tyL cI cB cO) [.ref m0, .int x] [(m0, .inr (5, [.ref g0, .ref g1, .ref g2, .int (nI ms), .ref g3, .ref g4, .int (nI N), .int (nI ax), .ref g5, .ref g6, .int fa, .int ho, .int la, .int fs, .ref g7, .ref g8])), (g0, .inl (cI, 58, .inl (rowL (n, P, F, G)))), (g7, .inl (cI, 4, .inl sd)), (g3, .inl (cI, 3, .inl (ref3 rb rn rf))), (g2, .inl (cI, 290, .inl pp))] sz (fun (ans : Int32) (u : (Nat → Int32) × (Nat → Int32)) => ans = (sPump (n, P, F, G) x).1 ∧ pastOk u.1 (fsl (sPump (n, P, F, G) x).1 ms) (fK (sPump (n, P, F, G) x).1 K ms (n, P, F, G))) (fun (u : (Nat → Int32) × (Nat → Int32)) => [(m0, .inr (5, [.ref g0, .ref g1, .ref g2, .int (nI (fsl (sPump (n, P, F, G) x).1 ms)), .ref g3, .ref g4, .int (nI N), .int (nI ax), .ref g5, .ref g6, .int fa, .int ho, .int la, .int fs, .ref g7, .ref g8])), (g0, .inl (cI, 58, .inl (rowL (sPump (n, P, F, G) x).2))), (g7, .inl (cI, 4, .inl u.2)), (g3, .inl (cI, 3, .inl (ref3 (gB (sPump (n, P, F, G) x).1 rb) (gN (sPump (n, P, F, G) x).1 rn) (gF (sPump (n, P, F, G) x).1 rf)))), (g2, .inl (cI, 290, .inl u.1))]) 0 0 := by
  refine ct_of (cc := cX5_pumps) (maxL := 2) (ret := some .int) (own := RX5) (Qc := QI D (fun (ans : Int32) (u : (Nat → Int32) × (Nat → Int32)) => ans = (sPump (n, P, F, G) x).1 ∧ pastOk u.1 (fsl (sPump (n, P, F, G) x).1 ms) (fK (sPump (n, P, F, G) x).1 K ms (n, P, F, G))) (fun (u : (Nat → Int32) × (Nat → Int32)) => [(m0, .inr (5, [.ref g0, .ref g1, .ref g2, .int (nI (fsl (sPump (n, P, F, G) x).1 ms)), .ref g3, .ref g4, .int (nI N), .int (nI ax), .ref g5, .ref g6, .int fa, .int ho, .int la, .int fs, .ref g7, .ref g8])), (g0, .inl (cI, 58, .inl (rowL (sPump (n, P, F, G) x).2))), (g7, .inl (cI, 4, .inl u.2)), (g3, .inl (cI, 3, .inl (ref3 (gB (sPump (n, P, F, G) x).1 rb) (gN (sPump (n, P, F, G) x).1 rn) (gF (sPump (n, P, F, G) x).1 rf)))), (g2, .inl (cI, 290, .inl u.1))])) (by decide) rfl rfl (Nat.le_of_ble_eq_true rfl) ?_
  intro pM eM sM mM below meth cM AM ls H locs hx hb hr hts hown hlocks hml hin hK hP hD hS hA hSt hl
  have hl : lv_has ls 2 [(0, .ref m0), (1, .int x)] := hl
  refine lv_aload_n hx hb dX5_pumps_0 rfl (lv_at hl 0 rfl) ?_
  refine lv_iload_n hx hb dX5_pumps_1 rfl (lv_at hl 1 rfl) ?_
  refine lv_iconst (v := 0) hx hb dX5_pumps_2 (by decide) ?_
  refine lv_iconst (v := 0) hx hb dX5_pumps_3 (by decide) ?_
  refine lv_iconst (v := 0) hx hb dX5_pumps_4 (by decide) ?_
  refine k_v (va_runV (As := [.int x, .int 0, .int 0, .int 0]) (rest := []) ⟨hx, hb, hml, hown, hts⟩ (c_X5_say l D cI cB cO H.size m0 g0 g1 g2 g3 g4 g5 g6 g7 g8 ms N ax fa ho la fs sd x 0 0 0 ) (cwV 4 hts gX5_pumps_X5_say rfl rfl rfl (by decide +kernel) ⟨Nat.le_of_ble_eq_true rfl, Nat.le_of_ble_eq_true rfl⟩) (preV_of hK hP hD hS hA hSt [0, 2] (by decide) rfl 0 (ci := 5) rfl rfl) rfl rfl hl.1 rfl (lv_room (Nat.le_of_ble_eq_true rfl)) dX5_pumps_5 ⟨Nat.le_of_ble_eq_true rfl, Nat.le_of_ble_eq_true rfl⟩) hP hD hS hA [0, 2] [1, 3, 4] [3, 0, 4, 1, 2] [(g0, .inl (cI, 58, .inl (rowL (n, P, F, G)))), (g3, .inl (cI, 3, .inl (ref3 rb rn rf))), (g2, .inl (cI, 290, .inl pp))] (fun (u_1 : Unit) => [(m0, .inr (5, [.ref g0, .ref g1, .ref g2, .int (nI ms), .ref g3, .ref g4, .int (nI N), .int (nI ax), .ref g5, .ref g6, .int fa, .int ho, .int la, .int fs, .ref g7, .ref g8])), (g0, .inl (cI, 58, .inl (rowL (n, P, F, G)))), (g7, .inl (cI, 4, .inl (sd4 x 0 0 0))), (g3, .inl (cI, 3, .inl (ref3 rb rn rf))), (g2, .inl (cI, 290, .inl pp))]) rfl rfl (by decide) (by decide) (by decide) (fun _ => rfl) (fun u_1 H locs q_1 hP hD hS => ?_)
  refine lv_aload_n hx hb dX5_pumps_8 rfl (lv_at hl 0 rfl) ?_
  refine lv_bipush (v := 112) hx hb dX5_pumps_9 (by decide) ?_
  refine k_i (va_runV (As := [.int 112]) (rest := []) ⟨hx, hb, hml, hown, hts⟩ (c_X5_call l D cI cB cO H.size m0 g0 g1 g2 g3 g4 g5 g6 g7 g8 ms N ax fa ho la fs n P F G rb rn rf pp K (sd4 x 0 0 0) 112 (by first | assumption | omega) (by first | assumption | omega) (by first | assumption | omega)) (cwV 1 hts gX5_pumps_X5_call rfl rfl rfl (by decide +kernel) ⟨Nat.le_of_ble_eq_true rfl, Nat.le_of_ble_eq_true rfl⟩) (preV_of hK hP hD hS hA hSt [0, 1, 2, 3, 4] (by decide) rfl 0 (ci := 5) rfl rfl) rfl rfl hl.1 rfl (lv_room (Nat.le_of_ble_eq_true rfl)) dX5_pumps_11 ⟨Nat.le_of_ble_eq_true rfl, Nat.le_of_ble_eq_true rfl⟩) hP hD hS hA [0, 1, 2, 3, 4] [] [0, 1, 2, 3, 4] [] (fun (u_2 : Nat → Int32) => [(m0, .inr (5, [.ref g0, .ref g1, .ref g2, .int (nI (fsl (sOrd (n, P, F, G) 112 (sd4 x 0 0 0)).1 ms)), .ref g3, .ref g4, .int (nI N), .int (nI ax), .ref g5, .ref g6, .int fa, .int ho, .int la, .int fs, .ref g7, .ref g8])), (g0, .inl (cI, 58, .inl (rowL (sOrd (n, P, F, G) 112 (sd4 x 0 0 0)).2))), (g7, .inl (cI, 4, .inl (sd4 x 0 0 0))), (g3, .inl (cI, 3, .inl (ref3 (gB (sOrd (n, P, F, G) 112 (sd4 x 0 0 0)).1 rb) (gN (sOrd (n, P, F, G) 112 (sd4 x 0 0 0)).1 rn) (gF (sOrd (n, P, F, G) 112 (sd4 x 0 0 0)).1 rf)))), (g2, .inl (cI, 290, .inl u_2))]) rfl rfl (by decide) (by decide) (by decide) (fun _ => rfl) (fun r_2 u_2 H locs q_2 hP hD hS => ?_)
  obtain ⟨rfl, hpk2⟩ := q_2
  refine e_i (u := (u_2, (sd4 x 0 0 0))) hx hb hr hlocks hP hD hS dX5_pumps_14 ?_ ?_
  · rw [show (sOrd (n, P, F, G) 112 (sd4 x 0 0 0)) = (sPump (n, P, F, G) x) from ord_112 (by decide) (by decide) (by decide) rfl]
  · have heq : (sOrd (n, P, F, G) 112 (sd4 x 0 0 0)) = (sPump (n, P, F, G) x) := ord_112 (by decide) (by decide) (by decide) rfl
    rw [heq] at hpk2
    exact ⟨congrArg Prod.fst heq, hpk2⟩
set_option maxHeartbeats 4000000 in
set_option maxRecDepth 100000 in
theorem c_X5_bursts (l : Launch) (D : va_G) (cI cB cO : ClassId) (sz : Nat) (m0 g0 g1 g2 g3 g4 g5 g6 g7 g8 ms N ax : Nat) (fa ho la fs : Int32) (n : Nat) (P : Int32) (F G : Nat → Int32) (rb rn rf : Int32) (pp : Nat → Int32) (K : Nat → Ln) (sd : Nat → Int32) (x : Int32) (hL : okLn (n, P, F, G)) (hms : ms ≤ 5) (hpk : pastOk pp ms K) : CI l yX5_bursts wsX5_bursts ({ frames := 5, cells := 0, slots := 0, locals := 107 } : Room) D (tyL cI cB cO) [.ref m0, .int x] [(m0, .inr (5, [.ref g0, .ref g1, .ref g2, .int (nI ms), .ref g3, .ref g4, .int (nI N), .int (nI ax), .ref g5, .ref g6, .int fa, .int ho, .int la, .int fs, .ref g7, .ref g8])), (g0, .inl (cI, 58, .inl (rowL (n, P, F, G)))), (g7, .inl (cI, 4, .inl sd)), (g3, .inl (cI, 3, .inl (ref3 rb rn rf))), (g2, .inl (cI, 290, .inl pp))] sz (fun (ans : Int32) (u : (Nat → Int32) × (Nat → Int32)) => ans = (sBurst (n, P, F, G) x).1 ∧ pastOk u.1 (fsl (sBurst (n, P, F, G) x).1 ms) (fK (sBurst (n, P, F, G) x).1 K ms (n, P, F, G))) (fun (u : (Nat → Int32) × (Nat → Int32)) => [(m0, .inr (5, [.ref g0, .ref g1, .ref g2, .int (nI (fsl (sBurst (n, P, F, G) x).1 ms)), .ref g3, .ref g4, .int (nI N), .int (nI ax), .ref g5, .ref g6, .int fa, .int ho, .int la, .int fs, .ref g7, .ref g8])), (g0, .inl (cI, 58, .inl (rowL (sBurst (n, P, F, G) x).2))), (g7, .inl (cI, 4, .inl u.2)), (g3, .inl (cI, 3, .inl (ref3 (gB (sBurst (n, P, F, G) x).1 rb) (gN (sBurst (n, P, F, G) x).1 rn) (gF (sBurst (n, P, F, G) x).1 rf)))), (g2, .inl (cI, 290, .inl u.1))]) 0 0 := by
  refine ct_of (cc := cX5_bursts) (maxL := 2) (ret := some .int) (own := RX5) (Qc := QI D (fun (ans : Int32) (u : (Nat → Int32) × (Nat → Int32)) => ans = (sBurst (n, P, F, G) x).1 ∧ pastOk u.1 (fsl (sBurst (n, P, F, G) x).1 ms) (fK (sBurst (n, P, F, G) x).1 K ms (n, P, F, G))) (fun (u : (Nat → Int32) × (Nat → Int32)) => [(m0, .inr (5, [.ref g0, .ref g1, .ref g2, .int (nI (fsl (sBurst (n, P, F, G) x).1 ms)), .ref g3, .ref g4, .int (nI N), .int (nI ax), .ref g5, .ref g6, .int fa, .int ho, .int la, .int fs, .ref g7, .ref g8])), (g0, .inl (cI, 58, .inl (rowL (sBurst (n, P, F, G) x).2))), (g7, .inl (cI, 4, .inl u.2)), (g3, .inl (cI, 3, .inl (ref3 (gB (sBurst (n, P, F, G) x).1 rb) (gN (sBurst (n, P, F, G) x).1 rn) (gF (sBurst (n, P, F, G) x).1 rf)))), (g2, .inl (cI, 290, .inl u.1))])) (by decide) rfl rfl (Nat.le_of_ble_eq_true rfl) ?_
  intro pM eM sM mM below meth cM AM ls H locs hx hb hr hts hown hlocks hml hin hK hP hD hS hA hSt hl
  have hl : lv_has ls 2 [(0, .ref m0), (1, .int x)] := hl
  refine lv_aload_n hx hb dX5_bursts_0 rfl (lv_at hl 0 rfl) ?_
  refine lv_iload_n hx hb dX5_bursts_1 rfl (lv_at hl 1 rfl) ?_
  refine lv_iconst (v := 0) hx hb dX5_bursts_2 (by decide) ?_
  refine lv_iconst (v := 0) hx hb dX5_bursts_3 (by decide) ?_
  refine lv_iconst (v := 0) hx hb dX5_bursts_4 (by decide) ?_
  refine k_v (va_runV (As := [.int x, .int 0, .int 0, .int 0]) (rest := []) ⟨hx, hb, hml, hown, hts⟩ (c_X5_say l D cI cB cO H.size m0 g0 g1 g2 g3 g4 g5 g6 g7 g8 ms N ax fa ho la fs sd x 0 0 0 ) (cwV 4 hts gX5_bursts_X5_say rfl rfl rfl (by decide +kernel) ⟨Nat.le_of_ble_eq_true rfl, Nat.le_of_ble_eq_true rfl⟩) (preV_of hK hP hD hS hA hSt [0, 2] (by decide) rfl 0 (ci := 5) rfl rfl) rfl rfl hl.1 rfl (lv_room (Nat.le_of_ble_eq_true rfl)) dX5_bursts_5 ⟨Nat.le_of_ble_eq_true rfl, Nat.le_of_ble_eq_true rfl⟩) hP hD hS hA [0, 2] [1, 3, 4] [3, 0, 4, 1, 2] [(g0, .inl (cI, 58, .inl (rowL (n, P, F, G)))), (g3, .inl (cI, 3, .inl (ref3 rb rn rf))), (g2, .inl (cI, 290, .inl pp))] (fun (u_1 : Unit) => [(m0, .inr (5, [.ref g0, .ref g1, .ref g2, .int (nI ms), .ref g3, .ref g4, .int (nI N), .int (nI ax), .ref g5, .ref g6, .int fa, .int ho, .int la, .int fs, .ref g7, .ref g8])), (g0, .inl (cI, 58, .inl (rowL (n, P, F, G)))), (g7, .inl (cI, 4, .inl (sd4 x 0 0 0))), (g3, .inl (cI, 3, .inl (ref3 rb rn rf))), (g2, .inl (cI, 290, .inl pp))]) rfl rfl (by decide) (by decide) (by decide) (fun _ => rfl) (fun u_1 H locs q_1 hP hD hS => ?_)
  refine lv_aload_n hx hb dX5_bursts_8 rfl (lv_at hl 0 rfl) ?_
  refine lv_bipush (v := 120) hx hb dX5_bursts_9 (by decide) ?_
  refine k_i (va_runV (As := [.int 120]) (rest := []) ⟨hx, hb, hml, hown, hts⟩ (c_X5_call l D cI cB cO H.size m0 g0 g1 g2 g3 g4 g5 g6 g7 g8 ms N ax fa ho la fs n P F G rb rn rf pp K (sd4 x 0 0 0) 120 (by first | assumption | omega) (by first | assumption | omega) (by first | assumption | omega)) (cwV 1 hts gX5_bursts_X5_call rfl rfl rfl (by decide +kernel) ⟨Nat.le_of_ble_eq_true rfl, Nat.le_of_ble_eq_true rfl⟩) (preV_of hK hP hD hS hA hSt [0, 1, 2, 3, 4] (by decide) rfl 0 (ci := 5) rfl rfl) rfl rfl hl.1 rfl (lv_room (Nat.le_of_ble_eq_true rfl)) dX5_bursts_11 ⟨Nat.le_of_ble_eq_true rfl, Nat.le_of_ble_eq_true rfl⟩) hP hD hS hA [0, 1, 2, 3, 4] [] [0, 1, 2, 3, 4] [] (fun (u_2 : Nat → Int32) => [(m0, .inr (5, [.ref g0, .ref g1, .ref g2, .int (nI (fsl (sOrd (n, P, F, G) 120 (sd4 x 0 0 0)).1 ms)), .ref g3, .ref g4, .int (nI N), .int (nI ax), .ref g5, .ref g6, .int fa, .int ho, .int la, .int fs, .ref g7, .ref g8])), (g0, .inl (cI, 58, .inl (rowL (sOrd (n, P, F, G) 120 (sd4 x 0 0 0)).2))), (g7, .inl (cI, 4, .inl (sd4 x 0 0 0))), (g3, .inl (cI, 3, .inl (ref3 (gB (sOrd (n, P, F, G) 120 (sd4 x 0 0 0)).1 rb) (gN (sOrd (n, P, F, G) 120 (sd4 x 0 0 0)).1 rn) (gF (sOrd (n, P, F, G) 120 (sd4 x 0 0 0)).1 rf)))), (g2, .inl (cI, 290, .inl u_2))]) rfl rfl (by decide) (by decide) (by decide) (fun _ => rfl) (fun r_2 u_2 H locs q_2 hP hD hS => ?_)
  obtain ⟨rfl, hpk2⟩ := q_2
  refine e_i (u := (u_2, (sd4 x 0 0 0))) hx hb hr hlocks hP hD hS dX5_bursts_14 ?_ ?_
  · rw [show (sOrd (n, P, F, G) 120 (sd4 x 0 0 0)) = (sBurst (n, P, F, G) x) from ord_120 (by decide) (by decide) (by decide) (by decide) rfl]
  · have heq : (sOrd (n, P, F, G) 120 (sd4 x 0 0 0)) = (sBurst (n, P, F, G) x) := ord_120 (by decide) (by decide) (by decide) (by decide) rfl
    rw [heq] at hpk2
    exact ⟨congrArg Prod.fst heq, hpk2⟩
set_option maxHeartbeats 4000000 in
set_option maxRecDepth 100000 in
theorem c_X5_mends (l : Launch) (D : va_G) (cI cB cO : ClassId) (sz : Nat) (m0 g0 g1 g2 g3 g4 g5 g6 g7 g8 ms N ax : Nat) (fa ho la fs : Int32) (n : Nat) (P : Int32) (F G : Nat → Int32) (rb rn rf : Int32) (pp : Nat → Int32) (K : Nat → Ln) (sd : Nat → Int32) (x : Int32) (hL : okLn (n, P, F, G)) (hms : ms ≤ 5) (hpk : pastOk pp ms K) : CI l yX5_mends wsX5_mends ({ frames := 5, cells := 0, slots := 0, locals := 107 } : Room) D (tyL cI cB cO) [.ref m0, .int x] [(m0, .inr (5, [.ref g0, .ref g1, .ref g2, .int (nI ms), .ref g3, .ref g4, .int (nI N), .int (nI ax), .ref g5, .ref g6, .int fa, .int ho, .int la, .int fs, .ref g7, .ref g8])), (g0, .inl (cI, 58, .inl (rowL (n, P, F, G)))), (g7, .inl (cI, 4, .inl sd)), (g3, .inl (cI, 3, .inl (ref3 rb rn rf))), (g2, .inl (cI, 290, .inl pp))] sz (fun (ans : Int32) (u : (Nat → Int32) × (Nat → Int32)) => ans = (sMend (n, P, F, G) x).1 ∧ pastOk u.1 (fsl (sMend (n, P, F, G) x).1 ms) (fK (sMend (n, P, F, G) x).1 K ms (n, P, F, G))) (fun (u : (Nat → Int32) × (Nat → Int32)) => [(m0, .inr (5, [.ref g0, .ref g1, .ref g2, .int (nI (fsl (sMend (n, P, F, G) x).1 ms)), .ref g3, .ref g4, .int (nI N), .int (nI ax), .ref g5, .ref g6, .int fa, .int ho, .int la, .int fs, .ref g7, .ref g8])), (g0, .inl (cI, 58, .inl (rowL (sMend (n, P, F, G) x).2))), (g7, .inl (cI, 4, .inl u.2)), (g3, .inl (cI, 3, .inl (ref3 (gB (sMend (n, P, F, G) x).1 rb) (gN (sMend (n, P, F, G) x).1 rn) (gF (sMend (n, P, F, G) x).1 rf)))), (g2, .inl (cI, 290, .inl u.1))]) 0 0 := by
  refine ct_of (cc := cX5_mends) (maxL := 2) (ret := some .int) (own := RX5) (Qc := QI D (fun (ans : Int32) (u : (Nat → Int32) × (Nat → Int32)) => ans = (sMend (n, P, F, G) x).1 ∧ pastOk u.1 (fsl (sMend (n, P, F, G) x).1 ms) (fK (sMend (n, P, F, G) x).1 K ms (n, P, F, G))) (fun (u : (Nat → Int32) × (Nat → Int32)) => [(m0, .inr (5, [.ref g0, .ref g1, .ref g2, .int (nI (fsl (sMend (n, P, F, G) x).1 ms)), .ref g3, .ref g4, .int (nI N), .int (nI ax), .ref g5, .ref g6, .int fa, .int ho, .int la, .int fs, .ref g7, .ref g8])), (g0, .inl (cI, 58, .inl (rowL (sMend (n, P, F, G) x).2))), (g7, .inl (cI, 4, .inl u.2)), (g3, .inl (cI, 3, .inl (ref3 (gB (sMend (n, P, F, G) x).1 rb) (gN (sMend (n, P, F, G) x).1 rn) (gF (sMend (n, P, F, G) x).1 rf)))), (g2, .inl (cI, 290, .inl u.1))])) (by decide) rfl rfl (Nat.le_of_ble_eq_true rfl) ?_
  intro pM eM sM mM below meth cM AM ls H locs hx hb hr hts hown hlocks hml hin hK hP hD hS hA hSt hl
  have hl : lv_has ls 2 [(0, .ref m0), (1, .int x)] := hl
  refine lv_aload_n hx hb dX5_mends_0 rfl (lv_at hl 0 rfl) ?_
  refine lv_iload_n hx hb dX5_mends_1 rfl (lv_at hl 1 rfl) ?_
  refine lv_iconst (v := 0) hx hb dX5_mends_2 (by decide) ?_
  refine lv_iconst (v := 0) hx hb dX5_mends_3 (by decide) ?_
  refine lv_iconst (v := 0) hx hb dX5_mends_4 (by decide) ?_
  refine k_v (va_runV (As := [.int x, .int 0, .int 0, .int 0]) (rest := []) ⟨hx, hb, hml, hown, hts⟩ (c_X5_say l D cI cB cO H.size m0 g0 g1 g2 g3 g4 g5 g6 g7 g8 ms N ax fa ho la fs sd x 0 0 0 ) (cwV 4 hts gX5_mends_X5_say rfl rfl rfl (by decide +kernel) ⟨Nat.le_of_ble_eq_true rfl, Nat.le_of_ble_eq_true rfl⟩) (preV_of hK hP hD hS hA hSt [0, 2] (by decide) rfl 0 (ci := 5) rfl rfl) rfl rfl hl.1 rfl (lv_room (Nat.le_of_ble_eq_true rfl)) dX5_mends_5 ⟨Nat.le_of_ble_eq_true rfl, Nat.le_of_ble_eq_true rfl⟩) hP hD hS hA [0, 2] [1, 3, 4] [3, 0, 4, 1, 2] [(g0, .inl (cI, 58, .inl (rowL (n, P, F, G)))), (g3, .inl (cI, 3, .inl (ref3 rb rn rf))), (g2, .inl (cI, 290, .inl pp))] (fun (u_1 : Unit) => [(m0, .inr (5, [.ref g0, .ref g1, .ref g2, .int (nI ms), .ref g3, .ref g4, .int (nI N), .int (nI ax), .ref g5, .ref g6, .int fa, .int ho, .int la, .int fs, .ref g7, .ref g8])), (g0, .inl (cI, 58, .inl (rowL (n, P, F, G)))), (g7, .inl (cI, 4, .inl (sd4 x 0 0 0))), (g3, .inl (cI, 3, .inl (ref3 rb rn rf))), (g2, .inl (cI, 290, .inl pp))]) rfl rfl (by decide) (by decide) (by decide) (fun _ => rfl) (fun u_1 H locs q_1 hP hD hS => ?_)
  refine lv_aload_n hx hb dX5_mends_8 rfl (lv_at hl 0 rfl) ?_
  refine lv_bipush (v := 109) hx hb dX5_mends_9 (by decide) ?_
  refine k_i (va_runV (As := [.int 109]) (rest := []) ⟨hx, hb, hml, hown, hts⟩ (c_X5_call l D cI cB cO H.size m0 g0 g1 g2 g3 g4 g5 g6 g7 g8 ms N ax fa ho la fs n P F G rb rn rf pp K (sd4 x 0 0 0) 109 (by first | assumption | omega) (by first | assumption | omega) (by first | assumption | omega)) (cwV 1 hts gX5_mends_X5_call rfl rfl rfl (by decide +kernel) ⟨Nat.le_of_ble_eq_true rfl, Nat.le_of_ble_eq_true rfl⟩) (preV_of hK hP hD hS hA hSt [0, 1, 2, 3, 4] (by decide) rfl 0 (ci := 5) rfl rfl) rfl rfl hl.1 rfl (lv_room (Nat.le_of_ble_eq_true rfl)) dX5_mends_11 ⟨Nat.le_of_ble_eq_true rfl, Nat.le_of_ble_eq_true rfl⟩) hP hD hS hA [0, 1, 2, 3, 4] [] [0, 1, 2, 3, 4] [] (fun (u_2 : Nat → Int32) => [(m0, .inr (5, [.ref g0, .ref g1, .ref g2, .int (nI (fsl (sOrd (n, P, F, G) 109 (sd4 x 0 0 0)).1 ms)), .ref g3, .ref g4, .int (nI N), .int (nI ax), .ref g5, .ref g6, .int fa, .int ho, .int la, .int fs, .ref g7, .ref g8])), (g0, .inl (cI, 58, .inl (rowL (sOrd (n, P, F, G) 109 (sd4 x 0 0 0)).2))), (g7, .inl (cI, 4, .inl (sd4 x 0 0 0))), (g3, .inl (cI, 3, .inl (ref3 (gB (sOrd (n, P, F, G) 109 (sd4 x 0 0 0)).1 rb) (gN (sOrd (n, P, F, G) 109 (sd4 x 0 0 0)).1 rn) (gF (sOrd (n, P, F, G) 109 (sd4 x 0 0 0)).1 rf)))), (g2, .inl (cI, 290, .inl u_2))]) rfl rfl (by decide) (by decide) (by decide) (fun _ => rfl) (fun r_2 u_2 H locs q_2 hP hD hS => ?_)
  obtain ⟨rfl, hpk2⟩ := q_2
  refine e_i (u := (u_2, (sd4 x 0 0 0))) hx hb hr hlocks hP hD hS dX5_mends_14 ?_ ?_
  · rw [show (sOrd (n, P, F, G) 109 (sd4 x 0 0 0)) = (sMend (n, P, F, G) x) from ord_109 (by decide) (by decide) rfl]
  · have heq : (sOrd (n, P, F, G) 109 (sd4 x 0 0 0)) = (sMend (n, P, F, G) x) := ord_109 (by decide) (by decide) rfl
    rw [heq] at hpk2
    exact ⟨congrArg Prod.fst heq, hpk2⟩
