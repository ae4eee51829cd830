set_option maxHeartbeats 4000000 in
set_option maxRecDepth 100000 in
theorem c_X5_of (l : Launch) (D : va_G) (cI cB cO : ClassId) (sz : Nat) (m0 g0 g1 g2 g3 g4 g5 g6 g7 g8 ms N ax : Nat) (fa ho la fs : Int32) (n : Nat) (P : Int32) (F G : Nat → Int32) (rb rn rf : Int32) (i w : Int32) (hn : n ≤ 10) : CI l yX5_of wsX5_of ({ frames := 2, cells := 0, slots := 0, locals := 43 } : Room) D (tyL cI cB cO) [.ref m0, .int i, .int w] [(m0, .inr (5, [.ref g0, .ref g1, .ref g2, .int (nI ms), .ref g3, .ref g4, .int (nI N), .int (nI ax), .ref g5, .ref g6, .int fa, .int ho, .int la, .int fs, .ref g7, .ref g8])), (g0, .inl (cI, 58, .inl (rowL (n, P, F, G)))), (g3, .inl (cI, 3, .inl (ref3 rb rn rf)))] sz (fun (r : Int32) (_ : Unit) => r = rB (okOf n i w) (F (pl i * 5 + pl w))) (fun (u : Unit) => [(m0, .inr (5, [.ref g0, .ref g1, .ref g2, .int (nI ms), .ref g3, .ref g4, .int (nI N), .int (nI ax), .ref g5, .ref g6, .int fa, .int ho, .int la, .int fs, .ref g7, .ref g8])), (g0, .inl (cI, 58, .inl (rowL (n, P, F, G)))), (g3, .inl (cI, 3, .inl (ref3 (bR (okOf n i w) rb) rn rf)))]) 0 0 := by
  refine ct_of (cc := cX5_of) (maxL := 3) (ret := some .int) (own := RX5) (Qc := QI D (fun (r : Int32) (_ : Unit) => r = rB (okOf n i w) (F (pl i * 5 + pl w))) (fun (u : Unit) => [(m0, .inr (5, [.ref g0, .ref g1, .ref g2, .int (nI ms), .ref g3, .ref g4, .int (nI N), .int (nI ax), .ref g5, .ref g6, .int fa, .int ho, .int la, .int fs, .ref g7, .ref g8])), (g0, .inl (cI, 58, .inl (rowL (n, P, F, G)))), (g3, .inl (cI, 3, .inl (ref3 (bR (okOf n i w) rb) rn rf)))])) (by decide) rfl rfl (Nat.le_of_ble_eq_true rfl) ?_
  intro pM eM sM mM below meth cM AM ls H locs hx hb hr hts hown hlocks hml hin hK hP hD hS hA hSt hl
  have hl : lv_has ls 3 [(0, .ref m0), (1, .int i), (2, .int w)] := hl
  refine lv_aload_n hx hb dX5_of_0 rfl (lv_at hl 0 rfl) ?_
  refine lv_iload_n hx hb dX5_of_1 rfl (lv_at hl 1 rfl) ?_
  refine k_i (va_runV (As := [.int i]) (rest := []) ⟨hx, hb, hml, hown, hts⟩ (c_X5_isSpan l D cI cB cO H.size m0 g0 g1 g2 g3 g4 g5 g6 g7 g8 ms N ax fa ho la fs n P F G i ) (cwV 1 hts gX5_of_X5_isSpan rfl rfl rfl (by decide +kernel) ⟨Nat.le_of_ble_eq_true rfl, Nat.le_of_ble_eq_true rfl⟩) (preV_of hK hP hD hS hA hSt [0, 1] (by decide) rfl 0 (ci := 5) rfl rfl) rfl rfl hl.1 rfl (lv_room (Nat.le_of_ble_eq_true rfl)) dX5_of_2 ⟨Nat.le_of_ble_eq_true rfl, Nat.le_of_ble_eq_true rfl⟩) hP hD hS hA [0, 1] [2] [1, 2, 0] [(g3, .inl (cI, 3, .inl (ref3 rb rn rf)))] (fun (u_1 : Unit) => [(m0, .inr (5, [.ref g0, .ref g1, .ref g2, .int (nI ms), .ref g3, .ref g4, .int (nI N), .int (nI ax), .ref g5, .ref g6, .int fa, .int ho, .int la, .int fs, .ref g7, .ref g8])), (g0, .inl (cI, 58, .inl (rowL (n, P, F, G)))), (g3, .inl (cI, 3, .inl (ref3 rb rn rf)))]) rfl rfl (by decide) (by decide) (by decide) (fun _ => rfl) (fun r_1 u_1 H locs q_1 hP hD hS => ?_)
  obtain rfl : r_1 = bI (inR i 0 (nI n - 1)) := q_1
  refine lv_if_eq (tgt := 26) hx hb dX5_of_5 (by decide) (fun c_2 => ?_) (fun c_2 => ?_)
  · have c_2 := bI_0.mp c_2
    refine lv_aload_n hx hb dX5_of_26 rfl (lv_at hl 0 rfl) ?_
    refine lv_ldc (v := -1000002) hx hb hown (hts (.constant RX5 37 (-1000002)) (List.mem_of_getElem? (i := 1) (by decide +kernel))) dX5_of_27 ?_
    refine k_i (va_runV (As := [.int (-1000002)]) (rest := []) ⟨hx, hb, hml, hown, hts⟩ (c_X5_refuse l D cI cB cO H.size m0 g0 g1 g2 g3 g4 g5 g6 g7 g8 ms N ax fa ho la fs rb rn rf (-1000002) (by decide)) (cwV 1 hts gX5_of_X5_refuse rfl rfl rfl (by decide +kernel) ⟨Nat.le_of_ble_eq_true rfl, Nat.le_of_ble_eq_true rfl⟩) (preV_of hK hP hD hS hA hSt [0, 2] (by decide) rfl 0 (ci := 5) rfl rfl) rfl rfl hl.1 rfl (lv_room (Nat.le_of_ble_eq_true rfl)) dX5_of_29 ⟨Nat.le_of_ble_eq_true rfl, Nat.le_of_ble_eq_true rfl⟩) hP hD hS hA [0, 2] [1] [1, 0, 2] [(g0, .inl (cI, 58, .inl (rowL (n, P, F, G))))] (fun (u_3 : Unit) => [(m0, .inr (5, [.ref g0, .ref g1, .ref g2, .int (nI ms), .ref g3, .ref g4, .int (nI N), .int (nI ax), .ref g5, .ref g6, .int fa, .int ho, .int la, .int fs, .ref g7, .ref g8])), (g0, .inl (cI, 58, .inl (rowL (n, P, F, G)))), (g3, .inl (cI, 3, .inl (ref3 (uB (-1000002) rb) (uN (-1000002) rn) (uF (-1000002) rf))))]) rfl rfl (by decide) (by decide) (by decide) (fun _ => rfl) (fun r_3 u_3 H locs q_3 hP hD hS => ?_)
    obtain rfl : r_3 = -1000002 := q_3
    rw [show (ref3 (uB (-1000002) rb) (uN (-1000002) rn) (uF (-1000002) rf)) = (ref3 (bR (okOf n i w) rb) rn rf) from (by rw [uB_B, uN_B, uF_B, show rb + 1 = bR (okOf n i w) rb from bR_f (by first | assumption | exact and_f1 (by assumption) | exact and_f2 (by assumption))])] at hP hD
    have hP : va_P D vwCl [(m0, .inr (5, [.ref g0, .ref g1, .ref g2, .int (nI ms), .ref g3, .ref g4, .int (nI N), .int (nI ax), .ref g5, .ref g6, .int fa, .int ho, .int la, .int fs, .ref g7, .ref g8])), (g0, .inl (cI, 58, .inl (rowL (n, P, F, G)))), (g3, .inl (cI, 3, .inl (ref3 (bR (okOf n i w) rb) rn rf)))] H := hP
    have hD : va_D AM [(m0, .inr (5, [.ref g0, .ref g1, .ref g2, .int (nI ms), .ref g3, .ref g4, .int (nI N), .int (nI ax), .ref g5, .ref g6, .int fa, .int ho, .int la, .int fs, .ref g7, .ref g8])), (g0, .inl (cI, 58, .inl (rowL (n, P, F, G)))), (g3, .inl (cI, 3, .inl (ref3 (bR (okOf n i w) rb) rn rf)))] := hD
    refine e_i (u := ()) hx hb hr hlocks hP hD hS dX5_of_32 ?_ ?_
    · rfl
    · exact rB_f (by first | assumption | exact and_f1 (by assumption) | exact and_f2 (by assumption))
  · have c_2 := bI_n0.mp c_2
    obtain ⟨j, hj, rfl⟩ := span_in hn c_2
    refine lv_iload_n hx hb dX5_of_8 rfl (lv_at hl 2 rfl) ?_
    refine lv_iconst (v := 0) hx hb dX5_of_9 (by decide) ?_
    refine lv_iconst (v := 4) hx hb dX5_of_10 (by decide) ?_
    refine k_i (va_runS (As := [.int w, .int 0, .int 4]) (rest := []) ⟨hx, hb, hml, hown, hts⟩ (c_X5_in l D cI cB cO H.size w 0 4 ) (va_cwS 3 hts gX5_of_X5_in rfl rfl rfl (by decide +kernel) ⟨Nat.le_of_ble_eq_true rfl, Nat.le_of_ble_eq_true rfl⟩) (preS_of hK hP hD hS hA hSt [] (by decide) rfl) rfl rfl hl.1 rfl (lv_room (Nat.le_of_ble_eq_true rfl)) dX5_of_11 ⟨Nat.le_of_ble_eq_true rfl, Nat.le_of_ble_eq_true rfl⟩) hP hD hS hA [] [0, 1, 2] [0, 1, 2] [(m0, .inr (5, [.ref g0, .ref g1, .ref g2, .int (nI ms), .ref g3, .ref g4, .int (nI N), .int (nI ax), .ref g5, .ref g6, .int fa, .int ho, .int la, .int fs, .ref g7, .ref g8])), (g0, .inl (cI, 58, .inl (rowL (n, P, F, G)))), (g3, .inl (cI, 3, .inl (ref3 rb rn rf)))] (fun (u_4 : Unit) => [(m0, .inr (5, [.ref g0, .ref g1, .ref g2, .int (nI ms), .ref g3, .ref g4, .int (nI N), .int (nI ax), .ref g5, .ref g6, .int fa, .int ho, .int la, .int fs, .ref g7, .ref g8])), (g0, .inl (cI, 58, .inl (rowL (n, P, F, G)))), (g3, .inl (cI, 3, .inl (ref3 rb rn rf)))]) rfl rfl (by decide) (by decide) (by decide) (fun _ => rfl) (fun r_4 u_4 H locs q_4 hP hD hS => ?_)
    obtain rfl : r_4 = bI (inR w 0 4) := q_4
    refine lv_if_eq (tgt := 26) hx hb dX5_of_14 (by decide) (fun c_5 => ?_) (fun c_5 => ?_)
    · have c_5 := bI_0.mp c_5
      refine lv_aload_n hx hb dX5_of_26 rfl (lv_at hl 0 rfl) ?_
      refine lv_ldc (v := -1000002) hx hb hown (hts (.constant RX5 37 (-1000002)) (List.mem_of_getElem? (i := 1) (by decide +kernel))) dX5_of_27 ?_
      refine k_i (va_runV (As := [.int (-1000002)]) (rest := []) ⟨hx, hb, hml, hown, hts⟩ (c_X5_refuse l D cI cB cO H.size m0 g0 g1 g2 g3 g4 g5 g6 g7 g8 ms N ax fa ho la fs rb rn rf (-1000002) (by decide)) (cwV 1 hts gX5_of_X5_refuse rfl rfl rfl (by decide +kernel) ⟨Nat.le_of_ble_eq_true rfl, Nat.le_of_ble_eq_true rfl⟩) (preV_of hK hP hD hS hA hSt [0, 2] (by decide) rfl 0 (ci := 5) rfl rfl) rfl rfl hl.1 rfl (lv_room (Nat.le_of_ble_eq_true rfl)) dX5_of_29 ⟨Nat.le_of_ble_eq_true rfl, Nat.le_of_ble_eq_true rfl⟩) hP hD hS hA [0, 2] [1] [1, 0, 2] [(g0, .inl (cI, 58, .inl (rowL (n, P, F, G))))] (fun (u_6 : Unit) => [(m0, .inr (5, [.ref g0, .ref g1, .ref g2, .int (nI ms), .ref g3, .ref g4, .int (nI N), .int (nI ax), .ref g5, .ref g6, .int fa, .int ho, .int la, .int fs, .ref g7, .ref g8])), (g0, .inl (cI, 58, .inl (rowL (n, P, F, G)))), (g3, .inl (cI, 3, .inl (ref3 (uB (-1000002) rb) (uN (-1000002) rn) (uF (-1000002) rf))))]) rfl rfl (by decide) (by decide) (by decide) (fun _ => rfl) (fun r_6 u_6 H locs q_6 hP hD hS => ?_)
      obtain rfl : r_6 = -1000002 := q_6
      rw [show (ref3 (uB (-1000002) rb) (uN (-1000002) rn) (uF (-1000002) rf)) = (ref3 (bR (okOf n (nI j) w) rb) rn rf) from (by rw [uB_B, uN_B, uF_B, show rb + 1 = bR (okOf n (nI j) w) rb from bR_f (by first | assumption | exact and_f1 (by assumption) | exact and_f2 (by assumption))])] at hP hD
      have hP : va_P D vwCl [(m0, .inr (5, [.ref g0, .ref g1, .ref g2, .int (nI ms), .ref g3, .ref g4, .int (nI N), .int (nI ax), .ref g5, .ref g6, .int fa, .int ho, .int la, .int fs, .ref g7, .ref g8])), (g0, .inl (cI, 58, .inl (rowL (n, P, F, G)))), (g3, .inl (cI, 3, .inl (ref3 (bR (okOf n (nI j) w) rb) rn rf)))] H := hP
      have hD : va_D AM [(m0, .inr (5, [.ref g0, .ref g1, .ref g2, .int (nI ms), .ref g3, .ref g4, .int (nI N), .int (nI ax), .ref g5, .ref g6, .int fa, .int ho, .int la, .int fs, .ref g7, .ref g8])), (g0, .inl (cI, 58, .inl (rowL (n, P, F, G)))), (g3, .inl (cI, 3, .inl (ref3 (bR (okOf n (nI j) w) rb) rn rf)))] := hD
      refine e_i (u := ()) hx hb hr hlocks hP hD hS dX5_of_32 ?_ ?_
      · rfl
      · exact rB_f (by first | assumption | exact and_f1 (by assumption) | exact and_f2 (by assumption))
    · have c_5 := bI_n0.mp c_5
      obtain ⟨k, hk, rfl⟩ := inR_nI (n := 4) (by decide) c_5
      refine lv_aload_n hx hb dX5_of_17 rfl (lv_at hl 0 rfl) ?_
      refine lv_iload_n hx hb dX5_of_18 rfl (lv_at hl 1 rfl) ?_
      refine lv_iload_n hx hb dX5_of_19 rfl (lv_at hl 2 rfl) ?_
      refine k_i (va_runV (As := [.int (nI j), .int (nI k)]) (rest := []) ⟨hx, hb, hml, hown, hts⟩ (c_X5_ofSpan l D cI cB cO H.size m0 g0 g1 g2 g3 g4 g5 g6 g7 g8 ms N ax fa ho la fs n P F G j k (by first | assumption | omega)) (cwV 2 hts gX5_of_X5_ofSpan rfl rfl rfl (by decide +kernel) ⟨Nat.le_of_ble_eq_true rfl, Nat.le_of_ble_eq_true rfl⟩) (preV_of hK hP hD hS hA hSt [0, 1] (by decide) rfl 0 (ci := 5) rfl rfl) rfl rfl hl.1 rfl (lv_room (Nat.le_of_ble_eq_true rfl)) dX5_of_20 ⟨Nat.le_of_ble_eq_true rfl, Nat.le_of_ble_eq_true rfl⟩) hP hD hS hA [0, 1] [2] [1, 2, 0] [(g3, .inl (cI, 3, .inl (ref3 rb rn rf)))] (fun (u_7 : Unit) => [(m0, .inr (5, [.ref g0, .ref g1, .ref g2, .int (nI ms), .ref g3, .ref g4, .int (nI N), .int (nI ax), .ref g5, .ref g6, .int fa, .int ho, .int la, .int fs, .ref g7, .ref g8])), (g0, .inl (cI, 58, .inl (rowL (n, P, F, G)))), (g3, .inl (cI, 3, .inl (ref3 rb rn rf)))]) rfl rfl (by decide) (by decide) (by decide) (fun _ => rfl) (fun r_7 u_7 H locs q_7 hP hD hS => ?_)
      obtain rfl : r_7 = F (j * 5 + k) := q_7
      refine lv_goto (tgt := 32) hx hb dX5_of_23 (by decide) ?_
      rw [show (ref3 rb rn rf) = (ref3 (bR (okOf n (nI j) (nI k)) rb) rn rf) from (congrArg (fun z => ref3 z rn rf) (bR_t (by first | assumption | exact and_t2 (by assumption) (by assumption))))] at hP hD
      have hP : va_P D vwCl [(m0, .inr (5, [.ref g0, .ref g1, .ref g2, .int (nI ms), .ref g3, .ref g4, .int (nI N), .int (nI ax), .ref g5, .ref g6, .int fa, .int ho, .int la, .int fs, .ref g7, .ref g8])), (g0, .inl (cI, 58, .inl (rowL (n, P, F, G)))), (g3, .inl (cI, 3, .inl (ref3 (bR (okOf n (nI j) (nI k)) rb) rn rf)))] H := hP
      have hD : va_D AM [(m0, .inr (5, [.ref g0, .ref g1, .ref g2, .int (nI ms), .ref g3, .ref g4, .int (nI N), .int (nI ax), .ref g5, .ref g6, .int fa, .int ho, .int la, .int fs, .ref g7, .ref g8])), (g0, .inl (cI, 58, .inl (rowL (n, P, F, G)))), (g3, .inl (cI, 3, .inl (ref3 (bR (okOf n (nI j) (nI k)) rb) rn rf)))] := hD
      refine e_i (u := ()) hx hb hr hlocks hP hD hS dX5_of_32 ?_ ?_
      · rfl
      · exact rB_t2 (by first | assumption | exact and_t2 (by assumption) (by assumption)) (by rw [pl_nI (show j < 2147483648 by omega), pl_nI (show k < 2147483648 by omega)])
set_option maxHeartbeats 4000000 in
set_option maxRecDepth 100000 in
theorem c_X5_loss (l : Launch) (D : va_G) (cI cB cO : ClassId) (sz : Nat) (m0 g0 g1 g2 g3 g4 g5 g6 g7 g8 ms N ax : Nat) (fa ho la fs : Int32) (n : Nat) (P : Int32) (F G : Nat → Int32) (rb rn rf : Int32) (i q : Int32) (hn : n ≤ 10) (hf : okFacts F) : CI l yX5_loss wsX5_loss ({ frames := 2, cells := 0, slots := 0, locals := 45 } : Room) D (tyL cI cB cO) [.ref m0, .int i, .int q] [(m0, .inr (5, [.ref g0, .ref g1, .ref g2, .int (nI ms), .ref g3, .ref g4, .int (nI N), .int (nI ax), .ref g5, .ref g6, .int fa, .int ho, .int la, .int fs, .ref g7, .ref g8])), (g0, .inl (cI, 58, .inl (rowL (n, P, F, G)))), (g3, .inl (cI, 3, .inl (ref3 rb rn rf)))] sz (fun (r : Int32) (_ : Unit) => r = rB (okLoss n i q) (lossF F (pl i) q)) (fun (u : Unit) => [(m0, .inr (5, [.ref g0, .ref g1, .ref g2, .int (nI ms), .ref g3, .ref g4, .int (nI N), .int (nI ax), .ref g5, .ref g6, .int fa, .int ho, .int la, .int fs, .ref g7, .ref g8])), (g0, .inl (cI, 58, .inl (rowL (n, P, F, G)))), (g3, .inl (cI, 3, .inl (ref3 (bR (okLoss n i q) rb) rn rf)))]) 0 0 := by
  refine ct_of (cc := cX5_loss) (maxL := 3) (ret := some .int) (own := RX5) (Qc := QI D (fun (r : Int32) (_ : Unit) => r = rB (okLoss n i q) (lossF F (pl i) q)) (fun (u : Unit) => [(m0, .inr (5, [.ref g0, .ref g1, .ref g2, .int (nI ms), .ref g3, .ref g4, .int (nI N), .int (nI ax), .ref g5, .ref g6, .int fa, .int ho, .int la, .int fs, .ref g7, .ref g8])), (g0, .inl (cI, 58, .inl (rowL (n, P, F, G)))), (g3, .inl (cI, 3, .inl (ref3 (bR (okLoss n i q) rb) rn rf)))])) (by decide) rfl rfl (Nat.le_of_ble_eq_true rfl) ?_
  intro pM eM sM mM below meth cM AM ls H locs hx hb hr hts hown hlocks hml hin hK hP hD hS hA hSt hl
  have hl : lv_has ls 3 [(0, .ref m0), (1, .int i), (2, .int q)] := hl
  refine lv_aload_n hx hb dX5_loss_0 rfl (lv_at hl 0 rfl) ?_
  refine lv_iload_n hx hb dX5_loss_1 rfl (lv_at hl 1 rfl) ?_
  refine k_i (va_runV (As := [.int i]) (rest := []) ⟨hx, hb, hml, hown, hts⟩ (c_X5_isSpan l D cI cB cO H.size m0 g0 g1 g2 g3 g4 g5 g6 g7 g8 ms N ax fa ho la fs n P F G i ) (cwV 1 hts gX5_loss_X5_isSpan rfl rfl rfl (by decide +kernel) ⟨Nat.le_of_ble_eq_true rfl, Nat.le_of_ble_eq_true rfl⟩) (preV_of hK hP hD hS hA hSt [0, 1] (by decide) rfl 0 (ci := 5) rfl rfl) rfl rfl hl.1 rfl (lv_room (Nat.le_of_ble_eq_true rfl)) dX5_loss_2 ⟨Nat.le_of_ble_eq_true rfl, Nat.le_of_ble_eq_true rfl⟩) hP hD hS hA [0, 1] [2] [1, 2, 0] [(g3, .inl (cI, 3, .inl (ref3 rb rn rf)))] (fun (u_1 : Unit) => [(m0, .inr (5, [.ref g0, .ref g1, .ref g2, .int (nI ms), .ref g3, .ref g4, .int (nI N), .int (nI ax), .ref g5, .ref g6, .int fa, .int ho, .int la, .int fs, .ref g7, .ref g8])), (g0, .inl (cI, 58, .inl (rowL (n, P, F, G)))), (g3, .inl (cI, 3, .inl (ref3 rb rn rf)))]) rfl rfl (by decide) (by decide) (by decide) (fun _ => rfl) (fun r_1 u_1 H locs q_1 hP hD hS => ?_)
  obtain rfl : r_1 = bI (inR i 0 (nI n - 1)) := q_1
  refine lv_if_eq (tgt := 27) hx hb dX5_loss_5 (by decide) (fun c_2 => ?_) (fun c_2 => ?_)
  · have c_2 := bI_0.mp c_2
    refine lv_aload_n hx hb dX5_loss_27 rfl (lv_at hl 0 rfl) ?_
    refine lv_ldc (v := -1000002) hx hb hown (hts (.constant RX5 37 (-1000002)) (List.mem_of_getElem? (i := 1) (by decide +kernel))) dX5_loss_28 ?_
    refine k_i (va_runV (As := [.int (-1000002)]) (rest := []) ⟨hx, hb, hml, hown, hts⟩ (c_X5_refuse l D cI cB cO H.size m0 g0 g1 g2 g3 g4 g5 g6 g7 g8 ms N ax fa ho la fs rb rn rf (-1000002) (by decide)) (cwV 1 hts gX5_loss_X5_refuse rfl rfl rfl (by decide +kernel) ⟨Nat.le_of_ble_eq_true rfl, Nat.le_of_ble_eq_true rfl⟩) (preV_of hK hP hD hS hA hSt [0, 2] (by decide) rfl 0 (ci := 5) rfl rfl) rfl rfl hl.1 rfl (lv_room (Nat.le_of_ble_eq_true rfl)) dX5_loss_30 ⟨Nat.le_of_ble_eq_true rfl, Nat.le_of_ble_eq_true rfl⟩) hP hD hS hA [0, 2] [1] [1, 0, 2] [(g0, .inl (cI, 58, .inl (rowL (n, P, F, G))))] (fun (u_3 : Unit) => [(m0, .inr (5, [.ref g0, .ref g1, .ref g2, .int (nI ms), .ref g3, .ref g4, .int (nI N), .int (nI ax), .ref g5, .ref g6, .int fa, .int ho, .int la, .int fs, .ref g7, .ref g8])), (g0, .inl (cI, 58, .inl (rowL (n, P, F, G)))), (g3, .inl (cI, 3, .inl (ref3 (uB (-1000002) rb) (uN (-1000002) rn) (uF (-1000002) rf))))]) rfl rfl (by decide) (by decide) (by decide) (fun _ => rfl) (fun r_3 u_3 H locs q_3 hP hD hS => ?_)
    obtain rfl : r_3 = -1000002 := q_3
    rw [show (ref3 (uB (-1000002) rb) (uN (-1000002) rn) (uF (-1000002) rf)) = (ref3 (bR (okLoss n i q) rb) rn rf) from (by rw [uB_B, uN_B, uF_B, show rb + 1 = bR (okLoss n i q) rb from bR_f (by first | assumption | exact and_f1 (by assumption) | exact and_f2 (by assumption))])] at hP hD
    have hP : va_P D vwCl [(m0, .inr (5, [.ref g0, .ref g1, .ref g2, .int (nI ms), .ref g3, .ref g4, .int (nI N), .int (nI ax), .ref g5, .ref g6, .int fa, .int ho, .int la, .int fs, .ref g7, .ref g8])), (g0, .inl (cI, 58, .inl (rowL (n, P, F, G)))), (g3, .inl (cI, 3, .inl (ref3 (bR (okLoss n i q) rb) rn rf)))] H := hP
    have hD : va_D AM [(m0, .inr (5, [.ref g0, .ref g1, .ref g2, .int (nI ms), .ref g3, .ref g4, .int (nI N), .int (nI ax), .ref g5, .ref g6, .int fa, .int ho, .int la, .int fs, .ref g7, .ref g8])), (g0, .inl (cI, 58, .inl (rowL (n, P, F, G)))), (g3, .inl (cI, 3, .inl (ref3 (bR (okLoss n i q) rb) rn rf)))] := hD
    refine e_i (u := ()) hx hb hr hlocks hP hD hS dX5_loss_33 ?_ ?_
    · rfl
    · exact rB_f (by first | assumption | exact and_f1 (by assumption) | exact and_f2 (by assumption))
  · have c_2 := bI_n0.mp c_2
    obtain ⟨j, hj, rfl⟩ := span_in hn c_2
    refine lv_iload_n hx hb dX5_loss_8 rfl (lv_at hl 2 rfl) ?_
    refine lv_iconst (v := 1) hx hb dX5_loss_9 (by decide) ?_
    refine lv_bipush (v := 30) hx hb dX5_loss_10 (by decide) ?_
    refine k_i (va_runS (As := [.int q, .int 1, .int 30]) (rest := []) ⟨hx, hb, hml, hown, hts⟩ (c_X5_in l D cI cB cO H.size q 1 30 ) (va_cwS 3 hts gX5_loss_X5_in rfl rfl rfl (by decide +kernel) ⟨Nat.le_of_ble_eq_true rfl, Nat.le_of_ble_eq_true rfl⟩) (preS_of hK hP hD hS hA hSt [] (by decide) rfl) rfl rfl hl.1 rfl (lv_room (Nat.le_of_ble_eq_true rfl)) dX5_loss_12 ⟨Nat.le_of_ble_eq_true rfl, Nat.le_of_ble_eq_true rfl⟩) hP hD hS hA [] [0, 1, 2] [0, 1, 2] [(m0, .inr (5, [.ref g0, .ref g1, .ref g2, .int (nI ms), .ref g3, .ref g4, .int (nI N), .int (nI ax), .ref g5, .ref g6, .int fa, .int ho, .int la, .int fs, .ref g7, .ref g8])), (g0, .inl (cI, 58, .inl (rowL (n, P, F, G)))), (g3, .inl (cI, 3, .inl (ref3 rb rn rf)))] (fun (u_4 : Unit) => [(m0, .inr (5, [.ref g0, .ref g1, .ref g2, .int (nI ms), .ref g3, .ref g4, .int (nI N), .int (nI ax), .ref g5, .ref g6, .int fa, .int ho, .int la, .int fs, .ref g7, .ref g8])), (g0, .inl (cI, 58, .inl (rowL (n, P, F, G)))), (g3, .inl (cI, 3, .inl (ref3 rb rn rf)))]) rfl rfl (by decide) (by decide) (by decide) (fun _ => rfl) (fun r_4 u_4 H locs q_4 hP hD hS => ?_)
    obtain rfl : r_4 = bI (inR q 1 30) := q_4
    refine lv_if_eq (tgt := 27) hx hb dX5_loss_15 (by decide) (fun c_5 => ?_) (fun c_5 => ?_)
    · have c_5 := bI_0.mp c_5
      refine lv_aload_n hx hb dX5_loss_27 rfl (lv_at hl 0 rfl) ?_
      refine lv_ldc (v := -1000002) hx hb hown (hts (.constant RX5 37 (-1000002)) (List.mem_of_getElem? (i := 1) (by decide +kernel))) dX5_loss_28 ?_
      refine k_i (va_runV (As := [.int (-1000002)]) (rest := []) ⟨hx, hb, hml, hown, hts⟩ (c_X5_refuse l D cI cB cO H.size m0 g0 g1 g2 g3 g4 g5 g6 g7 g8 ms N ax fa ho la fs rb rn rf (-1000002) (by decide)) (cwV 1 hts gX5_loss_X5_refuse rfl rfl rfl (by decide +kernel) ⟨Nat.le_of_ble_eq_true rfl, Nat.le_of_ble_eq_true rfl⟩) (preV_of hK hP hD hS hA hSt [0, 2] (by decide) rfl 0 (ci := 5) rfl rfl) rfl rfl hl.1 rfl (lv_room (Nat.le_of_ble_eq_true rfl)) dX5_loss_30 ⟨Nat.le_of_ble_eq_true rfl, Nat.le_of_ble_eq_true rfl⟩) hP hD hS hA [0, 2] [1] [1, 0, 2] [(g0, .inl (cI, 58, .inl (rowL (n, P, F, G))))] (fun (u_6 : Unit) => [(m0, .inr (5, [.ref g0, .ref g1, .ref g2, .int (nI ms), .ref g3, .ref g4, .int (nI N), .int (nI ax), .ref g5, .ref g6, .int fa, .int ho, .int la, .int fs, .ref g7, .ref g8])), (g0, .inl (cI, 58, .inl (rowL (n, P, F, G)))), (g3, .inl (cI, 3, .inl (ref3 (uB (-1000002) rb) (uN (-1000002) rn) (uF (-1000002) rf))))]) rfl rfl (by decide) (by decide) (by decide) (fun _ => rfl) (fun r_6 u_6 H locs q_6 hP hD hS => ?_)
      obtain rfl : r_6 = -1000002 := q_6
      rw [show (ref3 (uB (-1000002) rb) (uN (-1000002) rn) (uF (-1000002) rf)) = (ref3 (bR (okLoss n (nI j) q) rb) rn rf) from (by rw [uB_B, uN_B, uF_B, show rb + 1 = bR (okLoss n (nI j) q) rb from bR_f (by first | assumption | exact and_f1 (by assumption) | exact and_f2 (by assumption))])] at hP hD
      have hP : va_P D vwCl [(m0, .inr (5, [.ref g0, .ref g1, .ref g2, .int (nI ms), .ref g3, .ref g4, .int (nI N), .int (nI ax), .ref g5, .ref g6, .int fa, .int ho, .int la, .int fs, .ref g7, .ref g8])), (g0, .inl (cI, 58, .inl (rowL (n, P, F, G)))), (g3, .inl (cI, 3, .inl (ref3 (bR (okLoss n (nI j) q) rb) rn rf)))] H := hP
      have hD : va_D AM [(m0, .inr (5, [.ref g0, .ref g1, .ref g2, .int (nI ms), .ref g3, .ref g4, .int (nI N), .int (nI ax), .ref g5, .ref g6, .int fa, .int ho, .int la, .int fs, .ref g7, .ref g8])), (g0, .inl (cI, 58, .inl (rowL (n, P, F, G)))), (g3, .inl (cI, 3, .inl (ref3 (bR (okLoss n (nI j) q) rb) rn rf)))] := hD
      refine e_i (u := ()) hx hb hr hlocks hP hD hS dX5_loss_33 ?_ ?_
      · rfl
      · exact rB_f (by first | assumption | exact and_f1 (by assumption) | exact and_f2 (by assumption))
    · have c_5 := bI_n0.mp c_5
      refine lv_aload_n hx hb dX5_loss_18 rfl (lv_at hl 0 rfl) ?_
      refine lv_iload_n hx hb dX5_loss_19 rfl (lv_at hl 1 rfl) ?_
      refine lv_iload_n hx hb dX5_loss_20 rfl (lv_at hl 2 rfl) ?_
      refine k_i (va_runV (As := [.int (nI j), .int q]) (rest := []) ⟨hx, hb, hml, hown, hts⟩ (c_X5_lossOf l D cI cB cO H.size m0 g0 g1 g2 g3 g4 g5 g6 g7 g8 ms N ax fa ho la fs n P F G j q (by first | assumption | omega | exact okFacts.sort (by assumption) (by omega)) (by first | assumption | omega | exact okFacts.sort (by assumption) (by omega))) (cwV 2 hts gX5_loss_X5_lossOf rfl rfl rfl (by decide +kernel) ⟨Nat.le_of_ble_eq_true rfl, Nat.le_of_ble_eq_true rfl⟩) (preV_of hK hP hD hS hA hSt [0, 1] (by decide) rfl 0 (ci := 5) rfl rfl) rfl rfl hl.1 rfl (lv_room (Nat.le_of_ble_eq_true rfl)) dX5_loss_21 ⟨Nat.le_of_ble_eq_true rfl, Nat.le_of_ble_eq_true rfl⟩) hP hD hS hA [0, 1] [2] [1, 2, 0] [(g3, .inl (cI, 3, .inl (ref3 rb rn rf)))] (fun (u_7 : Unit) => [(m0, .inr (5, [.ref g0, .ref g1, .ref g2, .int (nI ms), .ref g3, .ref g4, .int (nI N), .int (nI ax), .ref g5, .ref g6, .int fa, .int ho, .int la, .int fs, .ref g7, .ref g8])), (g0, .inl (cI, 58, .inl (rowL (n, P, F, G)))), (g3, .inl (cI, 3, .inl (ref3 rb rn rf)))]) rfl rfl (by decide) (by decide) (by decide) (fun _ => rfl) (fun r_7 u_7 H locs q_7 hP hD hS => ?_)
      obtain rfl : r_7 = lossF F j q := q_7
      refine lv_goto (tgt := 33) hx hb dX5_loss_24 (by decide) ?_
      rw [show (ref3 rb rn rf) = (ref3 (bR (okLoss n (nI j) q) rb) rn rf) from (congrArg (fun z => ref3 z rn rf) (bR_t (by first | assumption | exact and_t2 (by assumption) (by assumption))))] at hP hD
      have hP : va_P D vwCl [(m0, .inr (5, [.ref g0, .ref g1, .ref g2, .int (nI ms), .ref g3, .ref g4, .int (nI N), .int (nI ax), .ref g5, .ref g6, .int fa, .int ho, .int la, .int fs, .ref g7, .ref g8])), (g0, .inl (cI, 58, .inl (rowL (n, P, F, G)))), (g3, .inl (cI, 3, .inl (ref3 (bR (okLoss n (nI j) q) rb) rn rf)))] H := hP
      have hD : va_D AM [(m0, .inr (5, [.ref g0, .ref g1, .ref g2, .int (nI ms), .ref g3, .ref g4, .int (nI N), .int (nI ax), .ref g5, .ref g6, .int fa, .int ho, .int la, .int fs, .ref g7, .ref g8])), (g0, .inl (cI, 58, .inl (rowL (n, P, F, G)))), (g3, .inl (cI, 3, .inl (ref3 (bR (okLoss n (nI j) q) rb) rn rf)))] := hD
      refine e_i (u := ()) hx hb hr hlocks hP hD hS dX5_loss_33 ?_ ?_
      · rfl
      · exact rB_t2 (by first | assumption | exact and_t2 (by assumption) (by assumption)) (by rw [pl_nI (show j < 2147483648 by omega)])
theorem in_X5_node_5 : ∀ w ∈ wsX50, w ∈ wsX5_node := fun _ h => List.mem_cons_of_mem _ (List.mem_append_right _ h)
set_option maxHeartbeats 4000000 in
set_option maxRecDepth 100000 in
theorem c_X5_node (l : Launch) (D : va_G) (cI cB cO : ClassId) (sz : Nat) (m0 g0 g1 g2 g3 g4 g5 g6 g7 g8 ms N ax : Nat) (fa ho la fs : Int32) (n S : Nat) (F G : Nat → Int32) (a b : Nat → Int32) (rb rn rf : Int32) (i w : Int32) (hn : n ≤ 10) (hf : okFacts F) (hS9 : S < 2048) : CI l yX5_node wsX5_node ({ frames := 4, cells := 0, slots := 0, locals := 93 } : Room) D (tyL cI cB cO) [.ref m0, .int i, .int w] [(m0, .inr (5, [.ref g0, .ref g1, .ref g2, .int (nI ms), .ref g3, .ref g4, .int (nI N), .int (nI ax), .ref g5, .ref g6, .int fa, .int ho, .int la, .int fs, .ref g7, .ref g8])), (g0, .inl (cI, 58, .inl (rowL (n, nI S, F, G)))), (g5, .inl (cI, 11, .inl a)), (g6, .inl (cI, 11, .inl b)), (g3, .inl (cI, 3, .inl (ref3 rb rn rf)))] sz (fun (r : Int32) (_ : Rs × Int32) => r = rB (okNode n i w) (nodeF F G n S i w)) (fun (u : Rs × Int32) => [(m0, .inr (5, [.ref g0, .ref g1, .ref g2, .int (nI ms), .ref g3, .ref g4, .int (nI N), .int (nI ax), .ref g5, .ref g6, .int u.1.1, .int u.1.2.1, .int u.2, .int fs, .ref g7, .ref g8])), (g0, .inl (cI, 58, .inl (rowL (n, nI S, F, G)))), (g5, .inl (cI, 11, .inl u.1.2.2.1)), (g6, .inl (cI, 11, .inl u.1.2.2.2)), (g3, .inl (cI, 3, .inl (ref3 (bR (okNode n i w) rb) rn rf)))]) 0 0 := by
  refine ct_of (cc := cX5_node) (maxL := 4) (ret := some .int) (own := RX5) (Qc := QI D (fun (r : Int32) (_ : Rs × Int32) => r = rB (okNode n i w) (nodeF F G n S i w)) (fun (u : Rs × Int32) => [(m0, .inr (5, [.ref g0, .ref g1, .ref g2, .int (nI ms), .ref g3, .ref g4, .int (nI N), .int (nI ax), .ref g5, .ref g6, .int u.1.1, .int u.1.2.1, .int u.2, .int fs, .ref g7, .ref g8])), (g0, .inl (cI, 58, .inl (rowL (n, nI S, F, G)))), (g5, .inl (cI, 11, .inl u.1.2.2.1)), (g6, .inl (cI, 11, .inl u.1.2.2.2)), (g3, .inl (cI, 3, .inl (ref3 (bR (okNode n i w) rb) rn rf)))])) (by decide) rfl rfl (Nat.le_of_ble_eq_true rfl) ?_
  intro pM eM sM mM below meth cM AM ls H locs hx hb hr hts hown hlocks hml hin hK hP hD hS hA hSt hl
  have hl : lv_has ls 4 [(0, .ref m0), (1, .int i), (2, .int w)] := hl
  refine lv_aload_n hx hb dX5_node_0 rfl (lv_at hl 0 rfl) ?_
  refine lv_iload_n hx hb dX5_node_1 rfl (lv_at hl 1 rfl) ?_
  refine k_i (va_runV (As := [.int i]) (rest := []) ⟨hx, hb, hml, hown, hts⟩ (c_X5_isNode l D cI cB cO H.size m0 g0 g1 g2 g3 g4 g5 g6 g7 g8 ms N ax fa ho la fs n (nI S) F G i ) (cwV 1 hts gX5_node_X5_isNode rfl rfl rfl (by decide +kernel) ⟨Nat.le_of_ble_eq_true rfl, Nat.le_of_ble_eq_true rfl⟩) (preV_of hK hP hD hS hA hSt [0, 1] (by decide) rfl 0 (ci := 5) rfl rfl) rfl rfl hl.1 rfl (lv_room (Nat.le_of_ble_eq_true rfl)) dX5_node_2 ⟨Nat.le_of_ble_eq_true rfl, Nat.le_of_ble_eq_true rfl⟩) hP hD hS hA [0, 1] [2, 3, 4] [3, 4, 0, 1, 2] [(g5, .inl (cI, 11, .inl a)), (g6, .inl (cI, 11, .inl b)), (g3, .inl (cI, 3, .inl (ref3 rb rn rf)))] (fun (u_1 : Unit) => [(m0, .inr (5, [.ref g0, .ref g1, .ref g2, .int (nI ms), .ref g3, .ref g4, .int (nI N), .int (nI ax), .ref g5, .ref g6, .int fa, .int ho, .int la, .int fs, .ref g7, .ref g8])), (g0, .inl (cI, 58, .inl (rowL (n, (nI S), F, G)))), (g5, .inl (cI, 11, .inl a)), (g6, .inl (cI, 11, .inl b)), (g3, .inl (cI, 3, .inl (ref3 rb rn rf)))]) rfl rfl (by decide) (by decide) (by decide) (fun _ => rfl) (fun r_1 u_1 H locs q_1 hP hD hS => ?_)
  obtain rfl : r_1 = bI (inR i 0 (nI n)) := q_1
  refine lv_if_eq (tgt := 17) hx hb dX5_node_5 (by decide) (fun c_2 => ?_) (fun c_2 => ?_)
  · have c_2 := bI_0.mp c_2
    refine lv_aload_n hx hb dX5_node_17 rfl (lv_at hl 0 rfl) ?_
    refine lv_ldc (v := -1000002) hx hb hown (hts (.constant RX5 37 (-1000002)) (List.mem_of_getElem? (i := 1) (by decide +kernel))) dX5_node_18 ?_
    refine k_i (va_runV (As := [.int (-1000002)]) (rest := []) ⟨hx, hb, hml, hown, hts⟩ (c_X5_refuse l D cI cB cO H.size m0 g0 g1 g2 g3 g4 g5 g6 g7 g8 ms N ax fa ho la fs rb rn rf (-1000002) (by decide)) (cwV 1 hts gX5_node_X5_refuse rfl rfl rfl (by decide +kernel) ⟨Nat.le_of_ble_eq_true rfl, Nat.le_of_ble_eq_true rfl⟩) (preV_of hK hP hD hS hA hSt [0, 4] (by decide) rfl 0 (ci := 5) rfl rfl) rfl rfl hl.1 rfl (lv_room (Nat.le_of_ble_eq_true rfl)) dX5_node_20 ⟨Nat.le_of_ble_eq_true rfl, Nat.le_of_ble_eq_true rfl⟩) hP hD hS hA [0, 4] [1, 2, 3] [3, 0, 1, 2, 4] [(g0, .inl (cI, 58, .inl (rowL (n, (nI S), F, G)))), (g5, .inl (cI, 11, .inl a)), (g6, .inl (cI, 11, .inl b))] (fun (u_3 : Unit) => [(m0, .inr (5, [.ref g0, .ref g1, .ref g2, .int (nI ms), .ref g3, .ref g4, .int (nI N), .int (nI ax), .ref g5, .ref g6, .int fa, .int ho, .int la, .int fs, .ref g7, .ref g8])), (g0, .inl (cI, 58, .inl (rowL (n, (nI S), F, G)))), (g5, .inl (cI, 11, .inl a)), (g6, .inl (cI, 11, .inl b)), (g3, .inl (cI, 3, .inl (ref3 (uB (-1000002) rb) (uN (-1000002) rn) (uF (-1000002) rf))))]) rfl rfl (by decide) (by decide) (by decide) (fun _ => rfl) (fun r_3 u_3 H locs q_3 hP hD hS => ?_)
    obtain rfl : r_3 = -1000002 := q_3
    rw [show (ref3 (uB (-1000002) rb) (uN (-1000002) rn) (uF (-1000002) rf)) = (ref3 (bR (okNode n i w) rb) rn rf) from (by rw [uB_B, uN_B, uF_B, show rb + 1 = bR (okNode n i w) rb from bR_f (by first | assumption | exact and_f1 (by assumption) | exact and_f2 (by assumption))])] at hP hD
    have hP : va_P D vwCl [(m0, .inr (5, [.ref g0, .ref g1, .ref g2, .int (nI ms), .ref g3, .ref g4, .int (nI N), .int (nI ax), .ref g5, .ref g6, .int fa, .int ho, .int la, .int fs, .ref g7, .ref g8])), (g0, .inl (cI, 58, .inl (rowL (n, (nI S), F, G)))), (g5, .inl (cI, 11, .inl a)), (g6, .inl (cI, 11, .inl b)), (g3, .inl (cI, 3, .inl (ref3 (bR (okNode n i w) rb) rn rf)))] H := hP
    have hD : va_D AM [(m0, .inr (5, [.ref g0, .ref g1, .ref g2, .int (nI ms), .ref g3, .ref g4, .int (nI N), .int (nI ax), .ref g5, .ref g6, .int fa, .int ho, .int la, .int fs, .ref g7, .ref g8])), (g0, .inl (cI, 58, .inl (rowL (n, (nI S), F, G)))), (g5, .inl (cI, 11, .inl a)), (g6, .inl (cI, 11, .inl b)), (g3, .inl (cI, 3, .inl (ref3 (bR (okNode n i w) rb) rn rf)))] := hD
    refine e_i (u := ((fa, ho, a, b), la)) hx hb hr hlocks hP hD hS dX5_node_23 ?_ ?_
    · rfl
    · exact rB_f (by first | assumption | exact and_f1 (by assumption) | exact and_f2 (by assumption))
  · have c_2 := bI_n0.mp c_2
    obtain ⟨j, hj, rfl⟩ := node_in hn c_2
    refine lv_iload_n hx hb dX5_node_8 rfl (lv_at hl 2 rfl) ?_
    refine lv_iconst (v := 0) hx hb dX5_node_9 (by decide) ?_
    refine lv_iconst (v := 1) hx hb dX5_node_10 (by decide) ?_
    refine k_i (va_runS (As := [.int w, .int 0, .int 1]) (rest := []) ⟨hx, hb, hml, hown, hts⟩ (c_X5_in l D cI cB cO H.size w 0 1 ) (va_cwS 3 hts gX5_node_X5_in rfl rfl rfl (by decide +kernel) ⟨Nat.le_of_ble_eq_true rfl, Nat.le_of_ble_eq_true rfl⟩) (preS_of hK hP hD hS hA hSt [] (by decide) rfl) rfl rfl hl.1 rfl (lv_room (Nat.le_of_ble_eq_true rfl)) dX5_node_11 ⟨Nat.le_of_ble_eq_true rfl, Nat.le_of_ble_eq_true rfl⟩) hP hD hS hA [] [0, 1, 2, 3, 4] [0, 1, 2, 3, 4] [(m0, .inr (5, [.ref g0, .ref g1, .ref g2, .int (nI ms), .ref g3, .ref g4, .int (nI N), .int (nI ax), .ref g5, .ref g6, .int fa, .int ho, .int la, .int fs, .ref g7, .ref g8])), (g0, .inl (cI, 58, .inl (rowL (n, (nI S), F, G)))), (g5, .inl (cI, 11, .inl a)), (g6, .inl (cI, 11, .inl b)), (g3, .inl (cI, 3, .inl (ref3 rb rn rf)))] (fun (u_4 : Unit) => [(m0, .inr (5, [.ref g0, .ref g1, .ref g2, .int (nI ms), .ref g3, .ref g4, .int (nI N), .int (nI ax), .ref g5, .ref g6, .int fa, .int ho, .int la, .int fs, .ref g7, .ref g8])), (g0, .inl (cI, 58, .inl (rowL (n, (nI S), F, G)))), (g5, .inl (cI, 11, .inl a)), (g6, .inl (cI, 11, .inl b)), (g3, .inl (cI, 3, .inl (ref3 rb rn rf)))]) rfl rfl (by decide) (by decide) (by decide) (fun _ => rfl) (fun r_4 u_4 H locs q_4 hP hD hS => ?_)
    obtain rfl : r_4 = bI (inR w 0 1) := q_4
    refine lv_if_ne (tgt := 24) hx hb dX5_node_14 (by decide) (fun c_5 => ?_) (fun c_5 => ?_)
    · have c_5 := bI_n0.mp c_5
      refine lv_aload_n hx hb dX5_node_24 rfl (lv_at hl 0 rfl) ?_
      refine lv_aload_n hx hb dX5_node_25 rfl (lv_at hl 0 rfl) ?_
      refine va_get (D := D) (ci := 5) (v := .ref g0) (C := RX5) (T := TX5) (N := 16) hx hb hts in_X5_node_5 hown hK hP 0 rfl rfl 0 (by decide) (hts (.fieldLink RX5 7 "HoseSpansModel" "now" "[I") (List.mem_of_getElem? (i := 2) (by decide +kernel))) (fun _ h9 => h9) rfl dX5_node_26 ?_
      refine lv_iconst (v := 2) hx hb dX5_node_29 (by decide) ?_
      refine va_iald hx hb hK hP 1 0 rfl rfl (vp_in_nI (n := 2) (by decide) (by decide)) dX5_node_30 ?_
      refine e_n (y := (rowL (n, (nI S), F, G)) 2) (congrArg (rowL (n, (nI S), F, G)) (by decide)) ?_
      refine e_n (y := G 0) rfl ?_
      refine lv_aload_n hx hb dX5_node_31 rfl (lv_at hl 0 rfl) ?_
      refine va_get (D := D) (ci := 5) (v := .ref g0) (C := RX5) (T := TX5) (N := 16) hx hb hts in_X5_node_5 hown hK hP 0 rfl rfl 0 (by decide) (hts (.fieldLink RX5 7 "HoseSpansModel" "now" "[I") (List.mem_of_getElem? (i := 2) (by decide +kernel))) (fun _ h9 => h9) rfl dX5_node_32 ?_
      refine lv_iconst (v := 1) hx hb dX5_node_35 (by decide) ?_
      refine va_iald hx hb hK hP 1 0 rfl rfl (vp_in_nI (n := 1) (by decide) (by decide)) dX5_node_36 ?_
      refine e_n (y := (rowL (n, (nI S), F, G)) 1) (congrArg (rowL (n, (nI S), F, G)) (by decide)) ?_
      refine e_n (y := nI S) rfl ?_
      refine k_i (va_runV (As := [.int (G 0), .int (nI S)]) (rest := []) ⟨hx, hb, hml, hown, hts⟩ (c_X5_goRun l D cI cB cO H.size m0 g0 g1 g2 g3 g4 g5 g6 g7 g8 ms N ax fa ho la fs n (nI S) F G a b (G 0) S (by first | assumption | omega | exact okFacts.sort (by assumption) (by omega)) (by first | assumption | omega | exact okFacts.sort (by assumption) (by omega)) (by first | assumption | omega | exact okFacts.sort (by assumption) (by omega))) (cwV 2 hts gX5_node_X5_goRun rfl rfl rfl (by decide +kernel) ⟨Nat.le_of_ble_eq_true rfl, Nat.le_of_ble_eq_true rfl⟩) (preV_of hK hP hD hS hA hSt [0, 1, 2, 3] (by decide) rfl 0 (ci := 5) rfl rfl) rfl rfl hl.1 rfl (lv_room (Nat.le_of_ble_eq_true rfl)) dX5_node_37 ⟨Nat.le_of_ble_eq_true rfl, Nat.le_of_ble_eq_true rfl⟩) hP hD hS hA [0, 1, 2, 3] [4] [1, 2, 3, 4, 0] [(g3, .inl (cI, 3, .inl (ref3 rb rn rf)))] (fun (u_6 : Unit) => [(m0, .inr (5, [.ref g0, .ref g1, .ref g2, .int (nI ms), .ref g3, .ref g4, .int (nI N), .int (nI ax), .ref g5, .ref g6, .int ((runF F G n (G 0) S).1), .int ((runF F G n (G 0) S).2.1), .int ((runF F G n (G 0) S).2.2.2 n), .int fs, .ref g7, .ref g8])), (g0, .inl (cI, 58, .inl (rowL (n, (nI S), F, G)))), (g5, .inl (cI, 11, .inl ((runF F G n (G 0) S).2.2.1))), (g6, .inl (cI, 11, .inl ((runF F G n (G 0) S).2.2.2))), (g3, .inl (cI, 3, .inl (ref3 rb rn rf)))]) rfl rfl (by decide) (by decide) (by decide) (fun _ => rfl) (fun r_6 u_6 H locs q_6 hP hD hS => ?_)
      obtain rfl : r_6 = bI (metB F G n (G 0) S) := q_6
      refine lv_istore_n (lv' := [(3, .int (bI (metB F G n (G 0) S))), (0, .ref m0), (1, .int (nI j)), (2, .int w)]) hx hb dX5_node_40 rfl hl (by decide) rfl (fun ls hl => ?_)
      refine lv_iload_n hx hb dX5_node_41 rfl (lv_at hl 3 rfl) ?_
      refine lv_if_ne (tgt := 54) hx hb dX5_node_42 (by decide) (fun c_7 => ?_) (fun c_7 => ?_)
      · have hw0 := c_7
        refine lv_aload_n hx hb dX5_node_54 rfl (lv_at hl 1 rfl) ?_
        refine va_get (D := D) (ci := 5) (v := .ref g6) (C := RX5) (T := TX5) (N := 16) hx hb hts in_X5_node_5 hown hK hP 0 rfl rfl 9 (by decide) (hts (.fieldLink RX5 28 "HoseSpansModel" "behind" "[I") (List.mem_of_getElem? (i := 4) (by decide +kernel))) (fun _ h9 => h9) rfl dX5_node_55 ?_
        refine lv_iload_n hx hb dX5_node_58 rfl (lv_at hl 2 rfl) ?_
        refine va_iald hx hb hK hP 3 0 rfl rfl (vp_in_nI (by omega) (by decide)) dX5_node_59 ?_
        refine e_n (y := ((runF F G n (G 0) S).2.2.2) j) (congrArg ((runF F G n (G 0) S).2.2.2) (nI_clamp (by omega))) ?_
        rw [show (ref3 rb rn rf) = (ref3 (bR (okNode n (nI j) w) rb) rn rf) from (congrArg (fun z => ref3 z rn rf) (bR_t (by first | assumption | exact and_t2 (by assumption) (by assumption))))] at hP hD
        have hP : va_P D vwCl [(m0, .inr (5, [.ref g0, .ref g1, .ref g2, .int (nI ms), .ref g3, .ref g4, .int (nI N), .int (nI ax), .ref g5, .ref g6, .int ((runF F G n (G 0) S).1), .int ((runF F G n (G 0) S).2.1), .int ((runF F G n (G 0) S).2.2.2 n), .int fs, .ref g7, .ref g8])), (g0, .inl (cI, 58, .inl (rowL (n, (nI S), F, G)))), (g5, .inl (cI, 11, .inl ((runF F G n (G 0) S).2.2.1))), (g6, .inl (cI, 11, .inl ((runF F G n (G 0) S).2.2.2))), (g3, .inl (cI, 3, .inl (ref3 (bR (okNode n (nI j) w) rb) rn rf)))] H := hP
        have hD : va_D AM [(m0, .inr (5, [.ref g0, .ref g1, .ref g2, .int (nI ms), .ref g3, .ref g4, .int (nI N), .int (nI ax), .ref g5, .ref g6, .int ((runF F G n (G 0) S).1), .int ((runF F G n (G 0) S).2.1), .int ((runF F G n (G 0) S).2.2.2 n), .int fs, .ref g7, .ref g8])), (g0, .inl (cI, 58, .inl (rowL (n, (nI S), F, G)))), (g5, .inl (cI, 11, .inl ((runF F G n (G 0) S).2.2.1))), (g6, .inl (cI, 11, .inl ((runF F G n (G 0) S).2.2.2))), (g3, .inl (cI, 3, .inl (ref3 (bR (okNode n (nI j) w) rb) rn rf)))] := hD
        refine e_i (u := (((runF F G n (G 0) S).1, (runF F G n (G 0) S).2.1, (runF F G n (G 0) S).2.2.1, (runF F G n (G 0) S).2.2.2), (runF F G n (G 0) S).2.2.2 n)) hx hb hr hlocks hP hD hS dX5_node_60 ?_ ?_
        · rfl
        · first | exact rB_t2 (by first | assumption | exact and_t2 (by assumption) (by assumption)) (by unfold nodeF; rw [if_pos hw0, pl_nI (show j < 2147483648 by omega)]) | exact rB_t2 (by first | assumption | exact and_t2 (by assumption) (by assumption)) (by unfold nodeF; rw [if_neg hw0, pl_nI (show j < 2147483648 by omega)])
      · have hw0 := c_7
        refine lv_aload_n hx hb dX5_node_45 rfl (lv_at hl 1 rfl) ?_
        refine va_get (D := D) (ci := 5) (v := .ref g5) (C := RX5) (T := TX5) (N := 16) hx hb hts in_X5_node_5 hown hK hP 0 rfl rfl 8 (by decide) (hts (.fieldLink RX5 25 "HoseSpansModel" "into" "[I") (List.mem_of_getElem? (i := 3) (by decide +kernel))) (fun _ h9 => h9) rfl dX5_node_46 ?_
        refine lv_iload_n hx hb dX5_node_49 rfl (lv_at hl 2 rfl) ?_
        refine va_iald hx hb hK hP 2 0 rfl rfl (vp_in_nI (by omega) (by decide)) dX5_node_50 ?_
        refine e_n (y := ((runF F G n (G 0) S).2.2.1) j) (congrArg ((runF F G n (G 0) S).2.2.1) (nI_clamp (by omega))) ?_
        refine lv_goto (tgt := 60) hx hb dX5_node_51 (by decide) ?_
        rw [show (ref3 rb rn rf) = (ref3 (bR (okNode n (nI j) w) rb) rn rf) from (congrArg (fun z => ref3 z rn rf) (bR_t (by first | assumption | exact and_t2 (by assumption) (by assumption))))] at hP hD
        have hP : va_P D vwCl [(m0, .inr (5, [.ref g0, .ref g1, .ref g2, .int (nI ms), .ref g3, .ref g4, .int (nI N), .int (nI ax), .ref g5, .ref g6, .int ((runF F G n (G 0) S).1), .int ((runF F G n (G 0) S).2.1), .int ((runF F G n (G 0) S).2.2.2 n), .int fs, .ref g7, .ref g8])), (g0, .inl (cI, 58, .inl (rowL (n, (nI S), F, G)))), (g5, .inl (cI, 11, .inl ((runF F G n (G 0) S).2.2.1))), (g6, .inl (cI, 11, .inl ((runF F G n (G 0) S).2.2.2))), (g3, .inl (cI, 3, .inl (ref3 (bR (okNode n (nI j) w) rb) rn rf)))] H := hP
        have hD : va_D AM [(m0, .inr (5, [.ref g0, .ref g1, .ref g2, .int (nI ms), .ref g3, .ref g4, .int (nI N), .int (nI ax), .ref g5, .ref g6, .int ((runF F G n (G 0) S).1), .int ((runF F G n (G 0) S).2.1), .int ((runF F G n (G 0) S).2.2.2 n), .int fs, .ref g7, .ref g8])), (g0, .inl (cI, 58, .inl (rowL (n, (nI S), F, G)))), (g5, .inl (cI, 11, .inl ((runF F G n (G 0) S).2.2.1))), (g6, .inl (cI, 11, .inl ((runF F G n (G 0) S).2.2.2))), (g3, .inl (cI, 3, .inl (ref3 (bR (okNode n (nI j) w) rb) rn rf)))] := hD
        refine e_i (u := (((runF F G n (G 0) S).1, (runF F G n (G 0) S).2.1, (runF F G n (G 0) S).2.2.1, (runF F G n (G 0) S).2.2.2), (runF F G n (G 0) S).2.2.2 n)) hx hb hr hlocks hP hD hS dX5_node_60 ?_ ?_
        · rfl
        · first | exact rB_t2 (by first | assumption | exact and_t2 (by assumption) (by assumption)) (by unfold nodeF; rw [if_pos hw0, pl_nI (show j < 2147483648 by omega)]) | exact rB_t2 (by first | assumption | exact and_t2 (by assumption) (by assumption)) (by unfold nodeF; rw [if_neg hw0, pl_nI (show j < 2147483648 by omega)])
    · have c_5 := bI_0.mp c_5
      refine lv_aload_n hx hb dX5_node_17 rfl (lv_at hl 0 rfl) ?_
      refine lv_ldc (v := -1000002) hx hb hown (hts (.constant RX5 37 (-1000002)) (List.mem_of_getElem? (i := 1) (by decide +kernel))) dX5_node_18 ?_
      refine k_i (va_runV (As := [.int (-1000002)]) (rest := []) ⟨hx, hb, hml, hown, hts⟩ (c_X5_refuse l D cI cB cO H.size m0 g0 g1 g2 g3 g4 g5 g6 g7 g8 ms N ax fa ho la fs rb rn rf (-1000002) (by decide)) (cwV 1 hts gX5_node_X5_refuse rfl rfl rfl (by decide +kernel) ⟨Nat.le_of_ble_eq_true rfl, Nat.le_of_ble_eq_true rfl⟩) (preV_of hK hP hD hS hA hSt [0, 4] (by decide) rfl 0 (ci := 5) rfl rfl) rfl rfl hl.1 rfl (lv_room (Nat.le_of_ble_eq_true rfl)) dX5_node_20 ⟨Nat.le_of_ble_eq_true rfl, Nat.le_of_ble_eq_true rfl⟩) hP hD hS hA [0, 4] [1, 2, 3] [3, 0, 1, 2, 4] [(g0, .inl (cI, 58, .inl (rowL (n, (nI S), F, G)))), (g5, .inl (cI, 11, .inl a)), (g6, .inl (cI, 11, .inl b))] (fun (u_8 : Unit) => [(m0, .inr (5, [.ref g0, .ref g1, .ref g2, .int (nI ms), .ref g3, .ref g4, .int (nI N), .int (nI ax), .ref g5, .ref g6, .int fa, .int ho, .int la, .int fs, .ref g7, .ref g8])), (g0, .inl (cI, 58, .inl (rowL (n, (nI S), F, G)))), (g5, .inl (cI, 11, .inl a)), (g6, .inl (cI, 11, .inl b)), (g3, .inl (cI, 3, .inl (ref3 (uB (-1000002) rb) (uN (-1000002) rn) (uF (-1000002) rf))))]) rfl rfl (by decide) (by decide) (by decide) (fun _ => rfl) (fun r_8 u_8 H locs q_8 hP hD hS => ?_)
      obtain rfl : r_8 = -1000002 := q_8
      rw [show (ref3 (uB (-1000002) rb) (uN (-1000002) rn) (uF (-1000002) rf)) = (ref3 (bR (okNode n (nI j) w) rb) rn rf) from (by rw [uB_B, uN_B, uF_B, show rb + 1 = bR (okNode n (nI j) w) rb from bR_f (by first | assumption | exact and_f1 (by assumption) | exact and_f2 (by assumption))])] at hP hD
      have hP : va_P D vwCl [(m0, .inr (5, [.ref g0, .ref g1, .ref g2, .int (nI ms), .ref g3, .ref g4, .int (nI N), .int (nI ax), .ref g5, .ref g6, .int fa, .int ho, .int la, .int fs, .ref g7, .ref g8])), (g0, .inl (cI, 58, .inl (rowL (n, (nI S), F, G)))), (g5, .inl (cI, 11, .inl a)), (g6, .inl (cI, 11, .inl b)), (g3, .inl (cI, 3, .inl (ref3 (bR (okNode n (nI j) w) rb) rn rf)))] H := hP
      have hD : va_D AM [(m0, .inr (5, [.ref g0, .ref g1, .ref g2, .int (nI ms), .ref g3, .ref g4, .int (nI N), .int (nI ax), .ref g5, .ref g6, .int fa, .int ho, .int la, .int fs, .ref g7, .ref g8])), (g0, .inl (cI, 58, .inl (rowL (n, (nI S), F, G)))), (g5, .inl (cI, 11, .inl a)), (g6, .inl (cI, 11, .inl b)), (g3, .inl (cI, 3, .inl (ref3 (bR (okNode n (nI j) w) rb) rn rf)))] := hD
      refine e_i (u := ((fa, ho, a, b), la)) hx hb hr hlocks hP hD hS dX5_node_23 ?_ ?_
      · rfl
      · exact rB_f (by first | assumption | exact and_f1 (by assumption) | exact and_f2 (by assumption))
theorem in_X5_ofRun_5 : ∀ w ∈ wsX50, w ∈ wsX5_ofRun := fun _ h => List.mem_cons_of_mem _ (List.mem_append_right _ h)
set_option maxHeartbeats 4000000 in
set_option maxRecDepth 100000 in
theorem c_X5_ofRun (l : Launch) (D : va_G) (cI cB cO : ClassId) (sz : Nat) (m0 g0 g1 g2 g3 g4 g5 g6 g7 g8 ms N ax : Nat) (fa ho la fs : Int32) (n S : Nat) (F G : Nat → Int32) (a b : Nat → Int32) (w : Int32) (hn : n ≤ 10) (hf : okFacts F) (hS9 : S < 2048) : CI l yX5_ofRun wsX5_ofRun ({ frames := 4, cells := 0, slots := 0, locals := 93 } : Room) D (tyL cI cB cO) [.ref m0, .int w] [(m0, .inr (5, [.ref g0, .ref g1, .ref g2, .int (nI ms), .ref g3, .ref g4, .int (nI N), .int (nI ax), .ref g5, .ref g6, .int fa, .int ho, .int la, .int fs, .ref g7, .ref g8])), (g0, .inl (cI, 58, .inl (rowL (n, nI S, F, G)))), (g5, .inl (cI, 11, .inl a)), (g6, .inl (cI, 11, .inl b))] sz (fun (r : Int32) (_ : Rs × Int32) => r = runA F G n S w) (fun (u : Rs × Int32) => [(m0, .inr (5, [.ref g0, .ref g1, .ref g2, .int (nI ms), .ref g3, .ref g4, .int (nI N), .int (nI ax), .ref g5, .ref g6, .int u.1.1, .int u.1.2.1, .int u.2, .int fs, .ref g7, .ref g8])), (g0, .inl (cI, 58, .inl (rowL (n, nI S, F, G)))), (g5, .inl (cI, 11, .inl u.1.2.2.1)), (g6, .inl (cI, 11, .inl u.1.2.2.2))]) 0 0 := by
  refine ct_of (cc := cX5_ofRun) (maxL := 3) (ret := some .int) (own := RX5) (Qc := QI D (fun (r : Int32) (_ : Rs × Int32) => r = runA F G n S w) (fun (u : Rs × Int32) => [(m0, .inr (5, [.ref g0, .ref g1, .ref g2, .int (nI ms), .ref g3, .ref g4, .int (nI N), .int (nI ax), .ref g5, .ref g6, .int u.1.1, .int u.1.2.1, .int u.2, .int fs, .ref g7, .ref g8])), (g0, .inl (cI, 58, .inl (rowL (n, nI S, F, G)))), (g5, .inl (cI, 11, .inl u.1.2.2.1)), (g6, .inl (cI, 11, .inl u.1.2.2.2))])) (by decide) rfl rfl (Nat.le_of_ble_eq_true rfl) ?_
  intro pM eM sM mM below meth cM AM ls H locs hx hb hr hts hown hlocks hml hin hK hP hD hS hA hSt hl
  have hl : lv_has ls 3 [(0, .ref m0), (1, .int w)] := hl
  refine lv_aload_n hx hb dX5_ofRun_0 rfl (lv_at hl 0 rfl) ?_
  refine lv_aload_n hx hb dX5_ofRun_1 rfl (lv_at hl 0 rfl) ?_
  refine va_get (D := D) (ci := 5) (v := .ref g0) (C := RX5) (T := TX5) (N := 16) hx hb hts in_X5_ofRun_5 hown hK hP 0 rfl rfl 0 (by decide) (hts (.fieldLink RX5 7 "HoseSpansModel" "now" "[I") (List.mem_of_getElem? (i := 1) (by decide +kernel))) (fun _ h9 => h9) rfl dX5_ofRun_2 ?_
  refine lv_iconst (v := 2) hx hb dX5_ofRun_5 (by decide) ?_
  refine va_iald hx hb hK hP 1 0 rfl rfl (vp_in_nI (n := 2) (by decide) (by decide)) dX5_ofRun_6 ?_
  refine e_n (y := (rowL (n, nI S, F, G)) 2) (congrArg (rowL (n, nI S, F, G)) (by decide)) ?_
  refine e_n (y := G 0) rfl ?_
  refine lv_aload_n hx hb dX5_ofRun_7 rfl (lv_at hl 0 rfl) ?_
  refine va_get (D := D) (ci := 5) (v := .ref g0) (C := RX5) (T := TX5) (N := 16) hx hb hts in_X5_ofRun_5 hown hK hP 0 rfl rfl 0 (by decide) (hts (.fieldLink RX5 7 "HoseSpansModel" "now" "[I") (List.mem_of_getElem? (i := 1) (by decide +kernel))) (fun _ h9 => h9) rfl dX5_ofRun_8 ?_
  refine lv_iconst (v := 1) hx hb dX5_ofRun_11 (by decide) ?_
  refine va_iald hx hb hK hP 1 0 rfl rfl (vp_in_nI (n := 1) (by decide) (by decide)) dX5_ofRun_12 ?_
  refine e_n (y := (rowL (n, nI S, F, G)) 1) (congrArg (rowL (n, nI S, F, G)) (by decide)) ?_
  refine e_n (y := nI S) rfl ?_
  refine k_i (va_runV (As := [.int (G 0), .int (nI S)]) (rest := []) ⟨hx, hb, hml, hown, hts⟩ (c_X5_goRun l D cI cB cO H.size m0 g0 g1 g2 g3 g4 g5 g6 g7 g8 ms N ax fa ho la fs n (nI S) F G a b (G 0) S (by first | assumption | omega | exact okFacts.sort (by assumption) (by omega)) (by first | assumption | omega | exact okFacts.sort (by assumption) (by omega)) (by first | assumption | omega | exact okFacts.sort (by assumption) (by omega))) (cwV 2 hts gX5_ofRun_X5_goRun rfl rfl rfl (by decide +kernel) ⟨Nat.le_of_ble_eq_true rfl, Nat.le_of_ble_eq_true rfl⟩) (preV_of hK hP hD hS hA hSt [0, 1, 2, 3] (by decide) rfl 0 (ci := 5) rfl rfl) rfl rfl hl.1 rfl (lv_room (Nat.le_of_ble_eq_true rfl)) dX5_ofRun_13 ⟨Nat.le_of_ble_eq_true rfl, Nat.le_of_ble_eq_true rfl⟩) hP hD hS hA [0, 1, 2, 3] [] [0, 1, 2, 3] [] (fun (u_1 : Unit) => [(m0, .inr (5, [.ref g0, .ref g1, .ref g2, .int (nI ms), .ref g3, .ref g4, .int (nI N), .int (nI ax), .ref g5, .ref g6, .int ((runF F G n (G 0) S).1), .int ((runF F G n (G 0) S).2.1), .int ((runF F G n (G 0) S).2.2.2 n), .int fs, .ref g7, .ref g8])), (g0, .inl (cI, 58, .inl (rowL (n, (nI S), F, G)))), (g5, .inl (cI, 11, .inl ((runF F G n (G 0) S).2.2.1))), (g6, .inl (cI, 11, .inl ((runF F G n (G 0) S).2.2.2)))]) rfl rfl (by decide) (by decide) (by decide) (fun _ => rfl) (fun r_1 u_1 H locs q_1 hP hD hS => ?_)
  obtain rfl : r_1 = bI (metB F G n (G 0) S) := q_1
  refine lv_istore_n (lv' := [(2, .int (bI (metB F G n (G 0) S))), (0, .ref m0), (1, .int w)]) hx hb dX5_ofRun_16 rfl hl (by decide) rfl (fun ls hl => ?_)
  refine lv_iload_n hx hb dX5_ofRun_17 rfl (lv_at hl 2 rfl) ?_
  refine lv_if_ne (tgt := 37) hx hb dX5_ofRun_18 (by decide) (fun c_2 => ?_) (fun c_2 => ?_)
  · have hw0 := c_2
    refine lv_iload_n hx hb dX5_ofRun_37 rfl (lv_at hl 2 rfl) ?_
    refine lv_iconst (v := 1) hx hb dX5_ofRun_38 (by decide) ?_
    refine lv_icmp_ne (tgt := 49) hx hb dX5_ofRun_39 (by decide) (fun c_3 => ?_) (fun c_3 => ?_)
    · have hw1 := c_3
      refine lv_aload_n hx hb dX5_ofRun_49 rfl (lv_at hl 1 rfl) ?_
      refine va_get (D := D) (ci := 5) (v := .int ((runF F G n (G 0) S).2.2.2 n)) (C := RX5) (T := TX5) (N := 16) hx hb hts in_X5_ofRun_5 hown hK hP 0 rfl rfl 12 (by decide) (hts (.fieldLink RX5 75 "HoseSpansModel" "last" "I") (List.mem_of_getElem? (i := 5) (by decide +kernel))) (fun _ h9 => h9) rfl dX5_ofRun_50 ?_
      refine e_i (u := (((runF F G n (G 0) S).1, (runF F G n (G 0) S).2.1, (runF F G n (G 0) S).2.2.1, (runF F G n (G 0) S).2.2.2), (runF F G n (G 0) S).2.2.2 n)) hx hb hr hlocks hP hD hS dX5_ofRun_53 ?_ ?_
      · rfl
      · exact runA_2 hw0 hw1
    · have hw1 := c_3
      refine lv_aload_n hx hb dX5_ofRun_42 rfl (lv_at hl 1 rfl) ?_
      refine va_get (D := D) (ci := 5) (v := .int ((runF F G n (G 0) S).2.1)) (C := RX5) (T := TX5) (N := 16) hx hb hts in_X5_ofRun_5 hown hK hP 0 rfl rfl 11 (by decide) (hts (.fieldLink RX5 61 "HoseSpansModel" "how" "I") (List.mem_of_getElem? (i := 4) (by decide +kernel))) (fun _ h9 => h9) rfl dX5_ofRun_43 ?_
      refine lv_goto (tgt := 53) hx hb dX5_ofRun_46 (by decide) ?_
      refine e_i (u := (((runF F G n (G 0) S).1, (runF F G n (G 0) S).2.1, (runF F G n (G 0) S).2.2.1, (runF F G n (G 0) S).2.2.2), (runF F G n (G 0) S).2.2.2 n)) hx hb hr hlocks hP hD hS dX5_ofRun_53 ?_ ?_
      · rfl
      · exact runA_1 hw0 hw1
  · have hw0 := c_2
    refine lv_iload_n hx hb dX5_ofRun_21 rfl (lv_at hl 0 rfl) ?_
    refine lv_if_eq (tgt := 30) hx hb dX5_ofRun_22 (by decide) (fun c_4 => ?_) (fun c_4 => ?_)
    · have c_4 := bI_0.mp c_4
      have hmt := c_4
      refine lv_aload_n hx hb dX5_ofRun_30 rfl (lv_at hl 1 rfl) ?_
      refine va_get (D := D) (ci := 5) (v := .int ((runF F G n (G 0) S).1)) (C := RX5) (T := TX5) (N := 16) hx hb hts in_X5_ofRun_5 hown hK hP 0 rfl rfl 10 (by decide) (hts (.fieldLink RX5 58 "HoseSpansModel" "failsAt" "I") (List.mem_of_getElem? (i := 3) (by decide +kernel))) (fun _ h9 => h9) rfl dX5_ofRun_31 ?_
      refine lv_goto (tgt := 53) hx hb dX5_ofRun_34 (by decide) ?_
      refine e_i (u := (((runF F G n (G 0) S).1, (runF F G n (G 0) S).2.1, (runF F G n (G 0) S).2.2.1, (runF F G n (G 0) S).2.2.2), (runF F G n (G 0) S).2.2.2 n)) hx hb hr hlocks hP hD hS dX5_ofRun_53 ?_ ?_
      · rfl
      · exact runA_0 hw0
    · have c_4 := bI_n0.mp c_4
      have hmt := c_4
      refine lv_ldc (v := -1000001) hx hb hown (hts (.constant RX5 74 (-1000001)) (List.mem_of_getElem? (i := 2) (by decide +kernel))) dX5_ofRun_25 ?_
      refine lv_goto (tgt := 53) hx hb dX5_ofRun_27 (by decide) ?_
      refine e_i (u := (((runF F G n (G 0) S).1, (runF F G n (G 0) S).2.1, (runF F G n (G 0) S).2.2.1, (runF F G n (G 0) S).2.2.2), (runF F G n (G 0) S).2.2.2 n)) hx hb hr hlocks hP hD hS dX5_ofRun_53 ?_ ?_
      · rfl
      · exact runA_0m hw0 hmt
set_option maxHeartbeats 4000000 in
set_option maxRecDepth 100000 in
theorem c_X5_run (l : Launch) (D : va_G) (cI cB cO : ClassId) (sz : Nat) (m0 g0 g1 g2 g3 g4 g5 g6 g7 g8 ms N ax : Nat) (fa ho la fs : Int32) (n S : Nat) (F G : Nat → Int32) (a b : Nat → Int32) (rb rn rf : Int32) (w : Int32) (hn : n ≤ 10) (hf : okFacts F) (hS9 : S < 2048) : CI l yX5_run wsX5_run ({ frames := 5, cells := 0, slots := 0, locals := 115 } : Room) D (tyL cI cB cO) [.ref m0, .int w] [(m0, .inr (5, [.ref g0, .ref g1, .ref g2, .int (nI ms), .ref g3, .ref g4, .int (nI N), .int (nI ax), .ref g5, .ref g6, .int fa, .int ho, .int la, .int fs, .ref g7, .ref g8])), (g0, .inl (cI, 58, .inl (rowL (n, nI S, F, G)))), (g5, .inl (cI, 11, .inl a)), (g6, .inl (cI, 11, .inl b)), (g3, .inl (cI, 3, .inl (ref3 rb rn rf)))] sz (fun (r : Int32) (_ : Rs × Int32) => r = rB (inR w 0 2) (runA F G n S w)) (fun (u : Rs × Int32) => [(m0, .inr (5, [.ref g0, .ref g1, .ref g2, .int (nI ms), .ref g3, .ref g4, .int (nI N), .int (nI ax), .ref g5, .ref g6, .int u.1.1, .int u.1.2.1, .int u.2, .int fs, .ref g7, .ref g8])), (g0, .inl (cI, 58, .inl (rowL (n, nI S, F, G)))), (g5, .inl (cI, 11, .inl u.1.2.2.1)), (g6, .inl (cI, 11, .inl u.1.2.2.2)), (g3, .inl (cI, 3, .inl (ref3 (bR (inR w 0 2) rb) rn rf)))]) 0 0 := by
  refine ct_of (cc := cX5_run) (maxL := 2) (ret := some .int) (own := RX5) (Qc := QI D (fun (r : Int32) (_ : Rs × Int32) => r = rB (inR w 0 2) (runA F G n S w)) (fun (u : Rs × Int32) => [(m0, .inr (5, [.ref g0, .ref g1, .ref g2, .int (nI ms), .ref g3, .ref g4, .int (nI N), .int (nI ax), .ref g5, .ref g6, .int u.1.1, .int u.1.2.1, .int u.2, .int fs, .ref g7, .ref g8])), (g0, .inl (cI, 58, .inl (rowL (n, nI S, F, G)))), (g5, .inl (cI, 11, .inl u.1.2.2.1)), (g6, .inl (cI, 11, .inl u.1.2.2.2)), (g3, .inl (cI, 3, .inl (ref3 (bR (inR w 0 2) rb) rn rf)))])) (by decide) rfl rfl (Nat.le_of_ble_eq_true rfl) ?_
  intro pM eM sM mM below meth cM AM ls H locs hx hb hr hts hown hlocks hml hin hK hP hD hS hA hSt hl
  have hl : lv_has ls 2 [(0, .ref m0), (1, .int w)] := hl
  refine lv_iload_n hx hb dX5_run_0 rfl (lv_at hl 1 rfl) ?_
  refine lv_iconst (v := 0) hx hb dX5_run_1 (by decide) ?_
  refine lv_iconst (v := 2) hx hb dX5_run_2 (by decide) ?_
  refine k_i (va_runS (As := [.int w, .int 0, .int 2]) (rest := []) ⟨hx, hb, hml, hown, hts⟩ (c_X5_in l D cI cB cO H.size w 0 2 ) (va_cwS 3 hts gX5_run_X5_in rfl rfl rfl (by decide +kernel) ⟨Nat.le_of_ble_eq_true rfl, Nat.le_of_ble_eq_true rfl⟩) (preS_of hK hP hD hS hA hSt [] (by decide) rfl) rfl rfl hl.1 rfl (lv_room (Nat.le_of_ble_eq_true rfl)) dX5_run_3 ⟨Nat.le_of_ble_eq_true rfl, Nat.le_of_ble_eq_true rfl⟩) hP hD hS hA [] [0, 1, 2, 3, 4] [0, 1, 2, 3, 4] [(m0, .inr (5, [.ref g0, .ref g1, .ref g2, .int (nI ms), .ref g3, .ref g4, .int (nI N), .int (nI ax), .ref g5, .ref g6, .int fa, .int ho, .int la, .int fs, .ref g7, .ref g8])), (g0, .inl (cI, 58, .inl (rowL (n, nI S, F, G)))), (g5, .inl (cI, 11, .inl a)), (g6, .inl (cI, 11, .inl b)), (g3, .inl (cI, 3, .inl (ref3 rb rn rf)))] (fun (u_1 : Unit) => [(m0, .inr (5, [.ref g0, .ref g1, .ref g2, .int (nI ms), .ref g3, .ref g4, .int (nI N), .int (nI ax), .ref g5, .ref g6, .int fa, .int ho, .int la, .int fs, .ref g7, .ref g8])), (g0, .inl (cI, 58, .inl (rowL (n, nI S, F, G)))), (g5, .inl (cI, 11, .inl a)), (g6, .inl (cI, 11, .inl b)), (g3, .inl (cI, 3, .inl (ref3 rb rn rf)))]) rfl rfl (by decide) (by decide) (by decide) (fun _ => rfl) (fun r_1 u_1 H locs q_1 hP hD hS => ?_)
  obtain rfl : r_1 = bI (inR w 0 2) := q_1
  refine lv_if_eq (tgt := 17) hx hb dX5_run_6 (by decide) (fun c_2 => ?_) (fun c_2 => ?_)
  · have c_2 := bI_0.mp c_2
    refine lv_aload_n hx hb dX5_run_17 rfl (lv_at hl 0 rfl) ?_
    refine lv_ldc (v := -1000002) hx hb hown (hts (.constant RX5 37 (-1000002)) (List.mem_of_getElem? (i := 1) (by decide +kernel))) dX5_run_18 ?_
    refine k_i (va_runV (As := [.int (-1000002)]) (rest := []) ⟨hx, hb, hml, hown, hts⟩ (c_X5_refuse l D cI cB cO H.size m0 g0 g1 g2 g3 g4 g5 g6 g7 g8 ms N ax fa ho la fs rb rn rf (-1000002) (by decide)) (cwV 1 hts gX5_run_X5_refuse rfl rfl rfl (by decide +kernel) ⟨Nat.le_of_ble_eq_true rfl, Nat.le_of_ble_eq_true rfl⟩) (preV_of hK hP hD hS hA hSt [0, 4] (by decide) rfl 0 (ci := 5) rfl rfl) rfl rfl hl.1 rfl (lv_room (Nat.le_of_ble_eq_true rfl)) dX5_run_20 ⟨Nat.le_of_ble_eq_true rfl, Nat.le_of_ble_eq_true rfl⟩) hP hD hS hA [0, 4] [1, 2, 3] [3, 0, 1, 2, 4] [(g0, .inl (cI, 58, .inl (rowL (n, nI S, F, G)))), (g5, .inl (cI, 11, .inl a)), (g6, .inl (cI, 11, .inl b))] (fun (u_3 : Unit) => [(m0, .inr (5, [.ref g0, .ref g1, .ref g2, .int (nI ms), .ref g3, .ref g4, .int (nI N), .int (nI ax), .ref g5, .ref g6, .int fa, .int ho, .int la, .int fs, .ref g7, .ref g8])), (g0, .inl (cI, 58, .inl (rowL (n, nI S, F, G)))), (g5, .inl (cI, 11, .inl a)), (g6, .inl (cI, 11, .inl b)), (g3, .inl (cI, 3, .inl (ref3 (uB (-1000002) rb) (uN (-1000002) rn) (uF (-1000002) rf))))]) rfl rfl (by decide) (by decide) (by decide) (fun _ => rfl) (fun r_3 u_3 H locs q_3 hP hD hS => ?_)
    obtain rfl : r_3 = -1000002 := q_3
    rw [show (ref3 (uB (-1000002) rb) (uN (-1000002) rn) (uF (-1000002) rf)) = (ref3 (bR (inR w 0 2) rb) rn rf) from (by rw [uB_B, uN_B, uF_B, show rb + 1 = bR (inR w 0 2) rb from bR_f (by first | assumption | exact and_f1 (by assumption) | exact and_f2 (by assumption))])] at hP hD
    have hP : va_P D vwCl [(m0, .inr (5, [.ref g0, .ref g1, .ref g2, .int (nI ms), .ref g3, .ref g4, .int (nI N), .int (nI ax), .ref g5, .ref g6, .int fa, .int ho, .int la, .int fs, .ref g7, .ref g8])), (g0, .inl (cI, 58, .inl (rowL (n, nI S, F, G)))), (g5, .inl (cI, 11, .inl a)), (g6, .inl (cI, 11, .inl b)), (g3, .inl (cI, 3, .inl (ref3 (bR (inR w 0 2) rb) rn rf)))] H := hP
    have hD : va_D AM [(m0, .inr (5, [.ref g0, .ref g1, .ref g2, .int (nI ms), .ref g3, .ref g4, .int (nI N), .int (nI ax), .ref g5, .ref g6, .int fa, .int ho, .int la, .int fs, .ref g7, .ref g8])), (g0, .inl (cI, 58, .inl (rowL (n, nI S, F, G)))), (g5, .inl (cI, 11, .inl a)), (g6, .inl (cI, 11, .inl b)), (g3, .inl (cI, 3, .inl (ref3 (bR (inR w 0 2) rb) rn rf)))] := hD
    refine e_i (u := ((fa, ho, a, b), la)) hx hb hr hlocks hP hD hS dX5_run_23 ?_ ?_
    · rfl
    · exact rB_f (by first | assumption | exact and_f1 (by assumption) | exact and_f2 (by assumption))
  · have c_2 := bI_n0.mp c_2
    refine lv_aload_n hx hb dX5_run_9 rfl (lv_at hl 0 rfl) ?_
    refine lv_iload_n hx hb dX5_run_10 rfl (lv_at hl 1 rfl) ?_
    refine k_i (va_runV (As := [.int w]) (rest := []) ⟨hx, hb, hml, hown, hts⟩ (c_X5_ofRun l D cI cB cO H.size m0 g0 g1 g2 g3 g4 g5 g6 g7 g8 ms N ax fa ho la fs n S F G a b w (by first | assumption | omega | exact okFacts.sort (by assumption) (by omega)) (by first | assumption | omega | exact okFacts.sort (by assumption) (by omega)) (by first | assumption | omega | exact okFacts.sort (by assumption) (by omega))) (cwV 1 hts gX5_run_X5_ofRun rfl rfl rfl (by decide +kernel) ⟨Nat.le_of_ble_eq_true rfl, Nat.le_of_ble_eq_true rfl⟩) (preV_of hK hP hD hS hA hSt [0, 1, 2, 3] (by decide) rfl 0 (ci := 5) rfl rfl) rfl rfl hl.1 rfl (lv_room (Nat.le_of_ble_eq_true rfl)) dX5_run_11 ⟨Nat.le_of_ble_eq_true rfl, Nat.le_of_ble_eq_true rfl⟩) hP hD hS hA [0, 1, 2, 3] [4] [1, 2, 3, 4, 0] [(g3, .inl (cI, 3, .inl (ref3 rb rn rf)))] (fun (u_4 : Rs × Int32) => [(m0, .inr (5, [.ref g0, .ref g1, .ref g2, .int (nI ms), .ref g3, .ref g4, .int (nI N), .int (nI ax), .ref g5, .ref g6, .int u_4.1.1, .int u_4.1.2.1, .int u_4.2, .int fs, .ref g7, .ref g8])), (g0, .inl (cI, 58, .inl (rowL (n, nI S, F, G)))), (g5, .inl (cI, 11, .inl u_4.1.2.2.1)), (g6, .inl (cI, 11, .inl u_4.1.2.2.2)), (g3, .inl (cI, 3, .inl (ref3 rb rn rf)))]) rfl rfl (by decide) (by decide) (by decide) (fun _ => rfl) (fun r_4 u_4 H locs q_4 hP hD hS => ?_)
    obtain rfl : r_4 = runA F G n S w := q_4
    refine lv_goto (tgt := 23) hx hb dX5_run_14 (by decide) ?_
    rw [show (ref3 rb rn rf) = (ref3 (bR (inR w 0 2) rb) rn rf) from (congrArg (fun z => ref3 z rn rf) (bR_t (by first | assumption | exact and_t2 (by assumption) (by assumption))))] at hP hD
    have hP : va_P D vwCl [(m0, .inr (5, [.ref g0, .ref g1, .ref g2, .int (nI ms), .ref g3, .ref g4, .int (nI N), .int (nI ax), .ref g5, .ref g6, .int u_4.1.1, .int u_4.1.2.1, .int u_4.2, .int fs, .ref g7, .ref g8])), (g0, .inl (cI, 58, .inl (rowL (n, nI S, F, G)))), (g5, .inl (cI, 11, .inl u_4.1.2.2.1)), (g6, .inl (cI, 11, .inl u_4.1.2.2.2)), (g3, .inl (cI, 3, .inl (ref3 (bR (inR w 0 2) rb) rn rf)))] H := hP
    have hD : va_D AM [(m0, .inr (5, [.ref g0, .ref g1, .ref g2, .int (nI ms), .ref g3, .ref g4, .int (nI N), .int (nI ax), .ref g5, .ref g6, .int u_4.1.1, .int u_4.1.2.1, .int u_4.2, .int fs, .ref g7, .ref g8])), (g0, .inl (cI, 58, .inl (rowL (n, nI S, F, G)))), (g5, .inl (cI, 11, .inl u_4.1.2.2.1)), (g6, .inl (cI, 11, .inl u_4.1.2.2.2)), (g3, .inl (cI, 3, .inl (ref3 (bR (inR w 0 2) rb) rn rf)))] := hD
    refine e_i (u := ((u_4.1.1, u_4.1.2.1, u_4.1.2.2.1, u_4.1.2.2.2), u_4.2)) hx hb hr hlocks hP hD hS dX5_run_23 ?_ ?_
    · rfl
    · exact rB_t (by first | assumption | exact and_t2 (by assumption) (by assumption))
set_option maxHeartbeats 4000000 in
set_option maxRecDepth 100000 in
theorem c_X5_fewest (l : Launch) (D : va_G) (cI cB cO : ClassId) (sz : Nat) (m0 g0 g1 g2 g3 g4 g5 g6 g7 g8 ms N ax : Nat) (fa ho la fs : Int32) (n : Nat) (P : Int32) (F G : Nat → Int32) (a b : Nat → Int32) (rb rn rf : Int32) (q w : Int32) (hn : n ≤ 10) (hf : okFacts F) : CI l yX5_fewest wsX5_fewest ({ frames := 6, cells := 0, slots := 0, locals := 139 } : Room) D (tyL cI cB cO) [.ref m0, .int q, .int w] [(m0, .inr (5, [.ref g0, .ref g1, .ref g2, .int (nI ms), .ref g3, .ref g4, .int (nI N), .int (nI ax), .ref g5, .ref g6, .int fa, .int ho, .int la, .int fs, .ref g7, .ref g8])), (g0, .inl (cI, 58, .inl (rowL (n, P, F, G)))), (g5, .inl (cI, 11, .inl a)), (g6, .inl (cI, 11, .inl b)), (g3, .inl (cI, 3, .inl (ref3 rb rn rf)))] sz (fun (r : Int32) (_ : Rs × Int32 × Int32) => r = rB (okFew q w) (few2 F G n q w)) (fun (u : Rs × Int32 × Int32) => [(m0, .inr (5, [.ref g0, .ref g1, .ref g2, .int (nI ms), .ref g3, .ref g4, .int (nI N), .int (nI ax), .ref g5, .ref g6, .int u.1.1, .int u.1.2.1, .int u.2.1, .int u.2.2, .ref g7, .ref g8])), (g0, .inl (cI, 58, .inl (rowL (n, P, F, G)))), (g5, .inl (cI, 11, .inl u.1.2.2.1)), (g6, .inl (cI, 11, .inl u.1.2.2.2)), (g3, .inl (cI, 3, .inl (ref3 (bR (okFew q w) rb) rn rf)))]) 0 0 := by
  refine ct_of (cc := cX5_fewest) (maxL := 3) (ret := some .int) (own := RX5) (Qc := QI D (fun (r : Int32) (_ : Rs × Int32 × Int32) => r = rB (okFew q w) (few2 F G n q w)) (fun (u : Rs × Int32 × Int32) => [(m0, .inr (5, [.ref g0, .ref g1, .ref g2, .int (nI ms), .ref g3, .ref g4, .int (nI N), .int (nI ax), .ref g5, .ref g6, .int u.1.1, .int u.1.2.1, .int u.2.1, .int u.2.2, .ref g7, .ref g8])), (g0, .inl (cI, 58, .inl (rowL (n, P, F, G)))), (g5, .inl (cI, 11, .inl u.1.2.2.1)), (g6, .inl (cI, 11, .inl u.1.2.2.2)), (g3, .inl (cI, 3, .inl (ref3 (bR (okFew q w) rb) rn rf)))])) (by decide) rfl rfl (Nat.le_of_ble_eq_true rfl) ?_
  intro pM eM sM mM below meth cM AM ls H locs hx hb hr hts hown hlocks hml hin hK hP hD hS hA hSt hl
  have hl : lv_has ls 3 [(0, .ref m0), (1, .int q), (2, .int w)] := hl
  refine lv_iload_n hx hb dX5_fewest_0 rfl (lv_at hl 1 rfl) ?_
  refine lv_iconst (v := 1) hx hb dX5_fewest_1 (by decide) ?_
  refine lv_bipush (v := 30) hx hb dX5_fewest_2 (by decide) ?_
  refine k_i (va_runS (As := [.int q, .int 1, .int 30]) (rest := []) ⟨hx, hb, hml, hown, hts⟩ (c_X5_in l D cI cB cO H.size q 1 30 ) (va_cwS 3 hts gX5_fewest_X5_in rfl rfl rfl (by decide +kernel) ⟨Nat.le_of_ble_eq_true rfl, Nat.le_of_ble_eq_true rfl⟩) (preS_of hK hP hD hS hA hSt [] (by decide) rfl) rfl rfl hl.1 rfl (lv_room (Nat.le_of_ble_eq_true rfl)) dX5_fewest_4 ⟨Nat.le_of_ble_eq_true rfl, Nat.le_of_ble_eq_true rfl⟩) hP hD hS hA [] [0, 1, 2, 3, 4] [0, 1, 2, 3, 4] [(m0, .inr (5, [.ref g0, .ref g1, .ref g2, .int (nI ms), .ref g3, .ref g4, .int (nI N), .int (nI ax), .ref g5, .ref g6, .int fa, .int ho, .int la, .int fs, .ref g7, .ref g8])), (g0, .inl (cI, 58, .inl (rowL (n, P, F, G)))), (g5, .inl (cI, 11, .inl a)), (g6, .inl (cI, 11, .inl b)), (g3, .inl (cI, 3, .inl (ref3 rb rn rf)))] (fun (u_1 : Unit) => [(m0, .inr (5, [.ref g0, .ref g1, .ref g2, .int (nI ms), .ref g3, .ref g4, .int (nI N), .int (nI ax), .ref g5, .ref g6, .int fa, .int ho, .int la, .int fs, .ref g7, .ref g8])), (g0, .inl (cI, 58, .inl (rowL (n, P, F, G)))), (g5, .inl (cI, 11, .inl a)), (g6, .inl (cI, 11, .inl b)), (g3, .inl (cI, 3, .inl (ref3 rb rn rf)))]) rfl rfl (by decide) (by decide) (by decide) (fun _ => rfl) (fun r_1 u_1 H locs q_1 hP hD hS => ?_)
  obtain rfl : r_1 = bI (inR q 1 30) := q_1
  refine lv_if_eq (tgt := 28) hx hb dX5_fewest_7 (by decide) (fun c_2 => ?_) (fun c_2 => ?_)
  · have c_2 := bI_0.mp c_2
    refine lv_aload_n hx hb dX5_fewest_28 rfl (lv_at hl 0 rfl) ?_
    refine lv_ldc (v := -1000002) hx hb hown (hts (.constant RX5 37 (-1000002)) (List.mem_of_getElem? (i := 1) (by decide +kernel))) dX5_fewest_29 ?_
    refine k_i (va_runV (As := [.int (-1000002)]) (rest := []) ⟨hx, hb, hml, hown, hts⟩ (c_X5_refuse l D cI cB cO H.size m0 g0 g1 g2 g3 g4 g5 g6 g7 g8 ms N ax fa ho la fs rb rn rf (-1000002) (by decide)) (cwV 1 hts gX5_fewest_X5_refuse rfl rfl rfl (by decide +kernel) ⟨Nat.le_of_ble_eq_true rfl, Nat.le_of_ble_eq_true rfl⟩) (preV_of hK hP hD hS hA hSt [0, 4] (by decide) rfl 0 (ci := 5) rfl rfl) rfl rfl hl.1 rfl (lv_room (Nat.le_of_ble_eq_true rfl)) dX5_fewest_31 ⟨Nat.le_of_ble_eq_true rfl, Nat.le_of_ble_eq_true rfl⟩) hP hD hS hA [0, 4] [1, 2, 3] [3, 0, 1, 2, 4] [(g0, .inl (cI, 58, .inl (rowL (n, P, F, G)))), (g5, .inl (cI, 11, .inl a)), (g6, .inl (cI, 11, .inl b))] (fun (u_3 : Unit) => [(m0, .inr (5, [.ref g0, .ref g1, .ref g2, .int (nI ms), .ref g3, .ref g4, .int (nI N), .int (nI ax), .ref g5, .ref g6, .int fa, .int ho, .int la, .int fs, .ref g7, .ref g8])), (g0, .inl (cI, 58, .inl (rowL (n, P, F, G)))), (g5, .inl (cI, 11, .inl a)), (g6, .inl (cI, 11, .inl b)), (g3, .inl (cI, 3, .inl (ref3 (uB (-1000002) rb) (uN (-1000002) rn) (uF (-1000002) rf))))]) rfl rfl (by decide) (by decide) (by decide) (fun _ => rfl) (fun r_3 u_3 H locs q_3 hP hD hS => ?_)
    obtain rfl : r_3 = -1000002 := q_3
    rw [show (ref3 (uB (-1000002) rb) (uN (-1000002) rn) (uF (-1000002) rf)) = (ref3 (bR (okFew q w) rb) rn rf) from (by rw [uB_B, uN_B, uF_B, show rb + 1 = bR (okFew q w) rb from bR_f (by first | assumption | exact and_f1 (by assumption) | exact and_f2 (by assumption))])] at hP hD
    have hP : va_P D vwCl [(m0, .inr (5, [.ref g0, .ref g1, .ref g2, .int (nI ms), .ref g3, .ref g4, .int (nI N), .int (nI ax), .ref g5, .ref g6, .int fa, .int ho, .int la, .int fs, .ref g7, .ref g8])), (g0, .inl (cI, 58, .inl (rowL (n, P, F, G)))), (g5, .inl (cI, 11, .inl a)), (g6, .inl (cI, 11, .inl b)), (g3, .inl (cI, 3, .inl (ref3 (bR (okFew q w) rb) rn rf)))] H := hP
    have hD : va_D AM [(m0, .inr (5, [.ref g0, .ref g1, .ref g2, .int (nI ms), .ref g3, .ref g4, .int (nI N), .int (nI ax), .ref g5, .ref g6, .int fa, .int ho, .int la, .int fs, .ref g7, .ref g8])), (g0, .inl (cI, 58, .inl (rowL (n, P, F, G)))), (g5, .inl (cI, 11, .inl a)), (g6, .inl (cI, 11, .inl b)), (g3, .inl (cI, 3, .inl (ref3 (bR (okFew q w) rb) rn rf)))] := hD
    refine e_i (u := ((fa, ho, a, b), la, fs)) hx hb hr hlocks hP hD hS dX5_fewest_34 ?_ ?_
    · rfl
    · exact rB_f (by first | assumption | exact and_f1 (by assumption) | exact and_f2 (by assumption))
  · have c_2 := bI_n0.mp c_2
    refine lv_iload_n hx hb dX5_fewest_10 rfl (lv_at hl 2 rfl) ?_
    refine lv_iconst (v := 0) hx hb dX5_fewest_11 (by decide) ?_
    refine lv_iconst (v := 1) hx hb dX5_fewest_12 (by decide) ?_
    refine k_i (va_runS (As := [.int w, .int 0, .int 1]) (rest := []) ⟨hx, hb, hml, hown, hts⟩ (c_X5_in l D cI cB cO H.size w 0 1 ) (va_cwS 3 hts gX5_fewest_X5_in rfl rfl rfl (by decide +kernel) ⟨Nat.le_of_ble_eq_true rfl, Nat.le_of_ble_eq_true rfl⟩) (preS_of hK hP hD hS hA hSt [] (by decide) rfl) rfl rfl hl.1 rfl (lv_room (Nat.le_of_ble_eq_true rfl)) dX5_fewest_13 ⟨Nat.le_of_ble_eq_true rfl, Nat.le_of_ble_eq_true rfl⟩) hP hD hS hA [] [0, 1, 2, 3, 4] [0, 1, 2, 3, 4] [(m0, .inr (5, [.ref g0, .ref g1, .ref g2, .int (nI ms), .ref g3, .ref g4, .int (nI N), .int (nI ax), .ref g5, .ref g6, .int fa, .int ho, .int la, .int fs, .ref g7, .ref g8])), (g0, .inl (cI, 58, .inl (rowL (n, P, F, G)))), (g5, .inl (cI, 11, .inl a)), (g6, .inl (cI, 11, .inl b)), (g3, .inl (cI, 3, .inl (ref3 rb rn rf)))] (fun (u_4 : Unit) => [(m0, .inr (5, [.ref g0, .ref g1, .ref g2, .int (nI ms), .ref g3, .ref g4, .int (nI N), .int (nI ax), .ref g5, .ref g6, .int fa, .int ho, .int la, .int fs, .ref g7, .ref g8])), (g0, .inl (cI, 58, .inl (rowL (n, P, F, G)))), (g5, .inl (cI, 11, .inl a)), (g6, .inl (cI, 11, .inl b)), (g3, .inl (cI, 3, .inl (ref3 rb rn rf)))]) rfl rfl (by decide) (by decide) (by decide) (fun _ => rfl) (fun r_4 u_4 H locs q_4 hP hD hS => ?_)
    obtain rfl : r_4 = bI (inR w 0 1) := q_4
    refine lv_if_eq (tgt := 28) hx hb dX5_fewest_16 (by decide) (fun c_5 => ?_) (fun c_5 => ?_)
    · have c_5 := bI_0.mp c_5
      refine lv_aload_n hx hb dX5_fewest_28 rfl (lv_at hl 0 rfl) ?_
      refine lv_ldc (v := -1000002) hx hb hown (hts (.constant RX5 37 (-1000002)) (List.mem_of_getElem? (i := 1) (by decide +kernel))) dX5_fewest_29 ?_
      refine k_i (va_runV (As := [.int (-1000002)]) (rest := []) ⟨hx, hb, hml, hown, hts⟩ (c_X5_refuse l D cI cB cO H.size m0 g0 g1 g2 g3 g4 g5 g6 g7 g8 ms N ax fa ho la fs rb rn rf (-1000002) (by decide)) (cwV 1 hts gX5_fewest_X5_refuse rfl rfl rfl (by decide +kernel) ⟨Nat.le_of_ble_eq_true rfl, Nat.le_of_ble_eq_true rfl⟩) (preV_of hK hP hD hS hA hSt [0, 4] (by decide) rfl 0 (ci := 5) rfl rfl) rfl rfl hl.1 rfl (lv_room (Nat.le_of_ble_eq_true rfl)) dX5_fewest_31 ⟨Nat.le_of_ble_eq_true rfl, Nat.le_of_ble_eq_true rfl⟩) hP hD hS hA [0, 4] [1, 2, 3] [3, 0, 1, 2, 4] [(g0, .inl (cI, 58, .inl (rowL (n, P, F, G)))), (g5, .inl (cI, 11, .inl a)), (g6, .inl (cI, 11, .inl b))] (fun (u_6 : Unit) => [(m0, .inr (5, [.ref g0, .ref g1, .ref g2, .int (nI ms), .ref g3, .ref g4, .int (nI N), .int (nI ax), .ref g5, .ref g6, .int fa, .int ho, .int la, .int fs, .ref g7, .ref g8])), (g0, .inl (cI, 58, .inl (rowL (n, P, F, G)))), (g5, .inl (cI, 11, .inl a)), (g6, .inl (cI, 11, .inl b)), (g3, .inl (cI, 3, .inl (ref3 (uB (-1000002) rb) (uN (-1000002) rn) (uF (-1000002) rf))))]) rfl rfl (by decide) (by decide) (by decide) (fun _ => rfl) (fun r_6 u_6 H locs q_6 hP hD hS => ?_)
      obtain rfl : r_6 = -1000002 := q_6
      rw [show (ref3 (uB (-1000002) rb) (uN (-1000002) rn) (uF (-1000002) rf)) = (ref3 (bR (okFew q w) rb) rn rf) from (by rw [uB_B, uN_B, uF_B, show rb + 1 = bR (okFew q w) rb from bR_f (by first | assumption | exact and_f1 (by assumption) | exact and_f2 (by assumption))])] at hP hD
      have hP : va_P D vwCl [(m0, .inr (5, [.ref g0, .ref g1, .ref g2, .int (nI ms), .ref g3, .ref g4, .int (nI N), .int (nI ax), .ref g5, .ref g6, .int fa, .int ho, .int la, .int fs, .ref g7, .ref g8])), (g0, .inl (cI, 58, .inl (rowL (n, P, F, G)))), (g5, .inl (cI, 11, .inl a)), (g6, .inl (cI, 11, .inl b)), (g3, .inl (cI, 3, .inl (ref3 (bR (okFew q w) rb) rn rf)))] H := hP
      have hD : va_D AM [(m0, .inr (5, [.ref g0, .ref g1, .ref g2, .int (nI ms), .ref g3, .ref g4, .int (nI N), .int (nI ax), .ref g5, .ref g6, .int fa, .int ho, .int la, .int fs, .ref g7, .ref g8])), (g0, .inl (cI, 58, .inl (rowL (n, P, F, G)))), (g5, .inl (cI, 11, .inl a)), (g6, .inl (cI, 11, .inl b)), (g3, .inl (cI, 3, .inl (ref3 (bR (okFew q w) rb) rn rf)))] := hD
      refine e_i (u := ((fa, ho, a, b), la, fs)) hx hb hr hlocks hP hD hS dX5_fewest_34 ?_ ?_
      · rfl
      · exact rB_f (by first | assumption | exact and_f1 (by assumption) | exact and_f2 (by assumption))
    · have c_5 := bI_n0.mp c_5
      refine lv_aload_n hx hb dX5_fewest_19 rfl (lv_at hl 0 rfl) ?_
      refine lv_iload_n hx hb dX5_fewest_20 rfl (lv_at hl 1 rfl) ?_
      refine lv_iload_n hx hb dX5_fewest_21 rfl (lv_at hl 2 rfl) ?_
      refine k_i (va_runV (As := [.int q, .int w]) (rest := []) ⟨hx, hb, hml, hown, hts⟩ (c_X5_fewestOf l D cI cB cO H.size m0 g0 g1 g2 g3 g4 g5 g6 g7 g8 ms N ax fa ho la fs n P F G a b q w (by first | assumption | omega | exact okFacts.sort (by assumption) (by omega)) (by first | assumption | omega | exact okFacts.sort (by assumption) (by omega))) (cwV 2 hts gX5_fewest_X5_fewestOf rfl rfl rfl (by decide +kernel) ⟨Nat.le_of_ble_eq_true rfl, Nat.le_of_ble_eq_true rfl⟩) (preV_of hK hP hD hS hA hSt [0, 1, 2, 3] (by decide) rfl 0 (ci := 5) rfl rfl) rfl rfl hl.1 rfl (lv_room (Nat.le_of_ble_eq_true rfl)) dX5_fewest_22 ⟨Nat.le_of_ble_eq_true rfl, Nat.le_of_ble_eq_true rfl⟩) hP hD hS hA [0, 1, 2, 3] [4] [1, 2, 3, 4, 0] [(g3, .inl (cI, 3, .inl (ref3 rb rn rf)))] (fun (u_7 : Rs × Int32) => [(m0, .inr (5, [.ref g0, .ref g1, .ref g2, .int (nI ms), .ref g3, .ref g4, .int (nI N), .int (nI ax), .ref g5, .ref g6, .int u_7.1.1, .int u_7.1.2.1, .int u_7.2, .int (brF F G n q (2 ^ n)), .ref g7, .ref g8])), (g0, .inl (cI, 58, .inl (rowL (n, P, F, G)))), (g5, .inl (cI, 11, .inl u_7.1.2.2.1)), (g6, .inl (cI, 11, .inl u_7.1.2.2.2)), (g3, .inl (cI, 3, .inl (ref3 rb rn rf)))]) rfl rfl (by decide) (by decide) (by decide) (fun _ => rfl) (fun r_7 u_7 H locs q_7 hP hD hS => ?_)
      obtain rfl : r_7 = few2 F G n q w := q_7
      refine lv_goto (tgt := 34) hx hb dX5_fewest_25 (by decide) ?_
      rw [show (ref3 rb rn rf) = (ref3 (bR (okFew q w) rb) rn rf) from (congrArg (fun z => ref3 z rn rf) (bR_t (by first | assumption | exact and_t2 (by assumption) (by assumption))))] at hP hD
      have hP : va_P D vwCl [(m0, .inr (5, [.ref g0, .ref g1, .ref g2, .int (nI ms), .ref g3, .ref g4, .int (nI N), .int (nI ax), .ref g5, .ref g6, .int u_7.1.1, .int u_7.1.2.1, .int u_7.2, .int (brF F G n q (2 ^ n)), .ref g7, .ref g8])), (g0, .inl (cI, 58, .inl (rowL (n, P, F, G)))), (g5, .inl (cI, 11, .inl u_7.1.2.2.1)), (g6, .inl (cI, 11, .inl u_7.1.2.2.2)), (g3, .inl (cI, 3, .inl (ref3 (bR (okFew q w) rb) rn rf)))] H := hP
      have hD : va_D AM [(m0, .inr (5, [.ref g0, .ref g1, .ref g2, .int (nI ms), .ref g3, .ref g4, .int (nI N), .int (nI ax), .ref g5, .ref g6, .int u_7.1.1, .int u_7.1.2.1, .int u_7.2, .int (brF F G n q (2 ^ n)), .ref g7, .ref g8])), (g0, .inl (cI, 58, .inl (rowL (n, P, F, G)))), (g5, .inl (cI, 11, .inl u_7.1.2.2.1)), (g6, .inl (cI, 11, .inl u_7.1.2.2.2)), (g3, .inl (cI, 3, .inl (ref3 (bR (okFew q w) rb) rn rf)))] := hD
      refine e_i (u := ((u_7.1.1, u_7.1.2.1, u_7.1.2.2.1, u_7.1.2.2.2), u_7.2, brF F G n q (2 ^ n))) hx hb hr hlocks hP hD hS dX5_fewest_34 ?_ ?_
      · rfl
      · exact rB_t (by first | assumption | exact and_t2 (by assumption) (by assumption))
set_option maxHeartbeats 4000000 in
set_option maxRecDepth 100000 in
theorem c_X5_most (l : Launch) (D : va_G) (cI cB cO : ClassId) (sz : Nat) (m0 g0 g1 g2 g3 g4 g5 g6 g7 g8 ms N ax : Nat) (fa ho la fs : Int32) (n S : Nat) (F G : Nat → Int32) (a b : Nat → Int32) (hn : n ≤ 10) (hf : okFacts F) (hS9 : S < 2048) : CI l yX5_most wsX5_most ({ frames := 5, cells := 0, slots := 0, locals := 115 } : Room) D (tyL cI cB cO) [.ref m0] [(m0, .inr (5, [.ref g0, .ref g1, .ref g2, .int (nI ms), .ref g3, .ref g4, .int (nI N), .int (nI ax), .ref g5, .ref g6, .int fa, .int ho, .int la, .int fs, .ref g7, .ref g8])), (g0, .inl (cI, 58, .inl (rowL (n, nI S, F, G)))), (g5, .inl (cI, 11, .inl a)), (g6, .inl (cI, 11, .inl b))] sz (fun (r : Int32) (_ : Rs × Int32) => r = mostF F G n S) (fun (u : Rs × Int32) => [(m0, .inr (5, [.ref g0, .ref g1, .ref g2, .int (nI ms), .ref g3, .ref g4, .int (nI N), .int (nI ax), .ref g5, .ref g6, .int u.1.1, .int u.1.2.1, .int u.2, .int fs, .ref g7, .ref g8])), (g0, .inl (cI, 58, .inl (rowL (n, nI S, F, G)))), (g5, .inl (cI, 11, .inl u.1.2.2.1)), (g6, .inl (cI, 11, .inl u.1.2.2.2))]) 0 0 := by
  refine ct_of (cc := cX5_most) (maxL := 1) (ret := some .int) (own := RX5) (Qc := QI D (fun (r : Int32) (_ : Rs × Int32) => r = mostF F G n S) (fun (u : Rs × Int32) => [(m0, .inr (5, [.ref g0, .ref g1, .ref g2, .int (nI ms), .ref g3, .ref g4, .int (nI N), .int (nI ax), .ref g5, .ref g6, .int u.1.1, .int u.1.2.1, .int u.2, .int fs, .ref g7, .ref g8])), (g0, .inl (cI, 58, .inl (rowL (n, nI S, F, G)))), (g5, .inl (cI, 11, .inl u.1.2.2.1)), (g6, .inl (cI, 11, .inl u.1.2.2.2))])) (by decide) rfl rfl (Nat.le_of_ble_eq_true rfl) ?_
  intro pM eM sM mM below meth cM AM ls H locs hx hb hr hts hown hlocks hml hin hK hP hD hS hA hSt hl
  have hl : lv_has ls 1 [(0, .ref m0)] := hl
  refine lv_aload_n hx hb dX5_most_0 rfl (lv_at hl 0 rfl) ?_
  refine k_i (va_runV (As := []) (rest := []) ⟨hx, hb, hml, hown, hts⟩ (c_X5_mostNow l D cI cB cO H.size m0 g0 g1 g2 g3 g4 g5 g6 g7 g8 ms N ax fa ho la fs n S F G a b (by first | assumption | omega | exact okFacts.sort (by assumption) (by omega)) (by first | assumption | omega | exact okFacts.sort (by assumption) (by omega)) (by first | assumption | omega | exact okFacts.sort (by assumption) (by omega))) (cwV 0 hts gX5_most_X5_mostNow rfl rfl rfl (by decide +kernel) ⟨Nat.le_of_ble_eq_true rfl, Nat.le_of_ble_eq_true rfl⟩) (preV_of hK hP hD hS hA hSt [0, 1, 2, 3] (by decide) rfl 0 (ci := 5) rfl rfl) rfl rfl hl.1 rfl (lv_room (Nat.le_of_ble_eq_true rfl)) dX5_most_1 ⟨Nat.le_of_ble_eq_true rfl, Nat.le_of_ble_eq_true rfl⟩) hP hD hS hA [0, 1, 2, 3] [] [0, 1, 2, 3] [] (fun (u_1 : Rs × Int32) => [(m0, .inr (5, [.ref g0, .ref g1, .ref g2, .int (nI ms), .ref g3, .ref g4, .int (nI N), .int (nI ax), .ref g5, .ref g6, .int u_1.1.1, .int u_1.1.2.1, .int u_1.2, .int fs, .ref g7, .ref g8])), (g0, .inl (cI, 58, .inl (rowL (n, nI S, F, G)))), (g5, .inl (cI, 11, .inl u_1.1.2.2.1)), (g6, .inl (cI, 11, .inl u_1.1.2.2.2))]) rfl rfl (by decide) (by decide) (by decide) (fun _ => rfl) (fun r_1 u_1 H locs q_1 hP hD hS => ?_)
  obtain rfl : r_1 = mostF F G n S := q_1
  refine e_i (u := ((u_1.1.1, u_1.1.2.1, u_1.1.2.2.1, u_1.1.2.2.2), u_1.2)) hx hb hr hlocks hP hD hS dX5_most_4 ?_ ?_
  · rfl
  · rfl
theorem in_X5_countOf_5 : ∀ w ∈ wsX50, w ∈ wsX5_countOf := fun _ h => List.mem_cons_of_mem _ (List.mem_append_right _ h)
set_option maxHeartbeats 4000000 in
set_option maxRecDepth 100000 in
theorem c_X5_countOf (l : Launch) (D : va_G) (cI cB cO : ClassId) (sz : Nat) (m0 g0 g1 g2 g3 g4 g5 g6 g7 g8 ms N ax : Nat) (fa ho la fs : Int32) (n : Nat) (P : Int32) (F G : Nat → Int32) (w : Int32) (hn : n ≤ 10) (hp : okPumps P) (hr9 : inR w 0 10 = true) : CI l yX5_countOf wsX5_countOf ({ frames := 2, cells := 0, slots := 0, locals := 43 } : Room) D (tyL cI cB cO) [.ref m0, .int w] [(m0, .inr (5, [.ref g0, .ref g1, .ref g2, .int (nI ms), .ref g3, .ref g4, .int (nI N), .int (nI ax), .ref g5, .ref g6, .int fa, .int ho, .int la, .int fs, .ref g7, .ref g8])), (g0, .inl (cI, 58, .inl (rowL (n, P, F, G))))] sz (fun (r : Int32) (_ : Unit) => r = cntF (n, P, F, G) w) (fun (u : Unit) => [(m0, .inr (5, [.ref g0, .ref g1, .ref g2, .int (nI ms), .ref g3, .ref g4, .int (nI N), .int (nI ax), .ref g5, .ref g6, .int fa, .int ho, .int la, .int fs, .ref g7, .ref g8])), (g0, .inl (cI, 58, .inl (rowL (n, P, F, G))))]) 0 0 := by
  refine ct_of (cc := cX5_countOf) (maxL := 5) (ret := some .int) (own := RX5) (Qc := QI D (fun (r : Int32) (_ : Unit) => r = cntF (n, P, F, G) w) (fun (u : Unit) => [(m0, .inr (5, [.ref g0, .ref g1, .ref g2, .int (nI ms), .ref g3, .ref g4, .int (nI N), .int (nI ax), .ref g5, .ref g6, .int fa, .int ho, .int la, .int fs, .ref g7, .ref g8])), (g0, .inl (cI, 58, .inl (rowL (n, P, F, G))))])) (by decide) rfl rfl (Nat.le_of_ble_eq_true rfl) ?_
  intro pM eM sM mM below meth cM AM ls H locs hx hb hr hts hown hlocks hml hin hK hP hD hS hA hSt hl
  have hl : lv_has ls 5 [(0, .ref m0), (1, .int w)] := hl
  refine lv_iload_n hx hb dX5_countOf_0 rfl (lv_at hl 1 rfl) ?_
  refine lv_iconst (v := 4) hx hb dX5_countOf_1 (by decide) ?_
  refine lv_bipush (v := 9) hx hb dX5_countOf_2 (by decide) ?_
  refine k_i (va_runS (As := [.int w, .int 4, .int 9]) (rest := []) ⟨hx, hb, hml, hown, hts⟩ (c_X5_in l D cI cB cO H.size w 4 9 ) (va_cwS 3 hts gX5_countOf_X5_in rfl rfl rfl (by decide +kernel) ⟨Nat.le_of_ble_eq_true rfl, Nat.le_of_ble_eq_true rfl⟩) (preS_of hK hP hD hS hA hSt [] (by decide) rfl) rfl rfl hl.1 rfl (lv_room (Nat.le_of_ble_eq_true rfl)) dX5_countOf_4 ⟨Nat.le_of_ble_eq_true rfl, Nat.le_of_ble_eq_true rfl⟩) hP hD hS hA [] [0, 1] [0, 1] [(m0, .inr (5, [.ref g0, .ref g1, .ref g2, .int (nI ms), .ref g3, .ref g4, .int (nI N), .int (nI ax), .ref g5, .ref g6, .int fa, .int ho, .int la, .int fs, .ref g7, .ref g8])), (g0, .inl (cI, 58, .inl (rowL (n, P, F, G))))] (fun (u_1 : Unit) => [(m0, .inr (5, [.ref g0, .ref g1, .ref g2, .int (nI ms), .ref g3, .ref g4, .int (nI N), .int (nI ax), .ref g5, .ref g6, .int fa, .int ho, .int la, .int fs, .ref g7, .ref g8])), (g0, .inl (cI, 58, .inl (rowL (n, P, F, G))))]) rfl rfl (by decide) (by decide) (by decide) (fun _ => rfl) (fun r_1 u_1 H locs q_1 hP hD hS => ?_)
  obtain rfl : r_1 = bI (inR w 4 9) := q_1
  refine lv_if_eq (tgt := 21) hx hb dX5_countOf_7 (by decide) (fun c_2 => ?_) (fun c_2 => ?_)
  · have c_2 := bI_0.mp c_2
    have hns := c_2
    refine lv_iconst (v := 0) hx hb dX5_countOf_21 (by decide) ?_
    refine lv_istore_n (lv' := [(2, .int 0), (0, .ref m0), (1, .int w)]) hx hb dX5_countOf_22 rfl hl (by decide) rfl (fun ls hl => ?_)
    refine lv_iconst (v := 0) hx hb dX5_countOf_23 (by decide) ?_
    refine lv_istore_n (lv' := [(3, .int 0), (2, .int 0), (0, .ref m0), (1, .int w)]) hx hb dX5_countOf_24 rfl hl (by decide) rfl (fun ls hl => ?_)
    refine lv_iconst (v := 0) hx hb dX5_countOf_25 (by decide) ?_
    refine lv_istore (lv' := [(4, .int 0), (3, .int 0), (2, .int 0), (0, .ref m0), (1, .int w)]) hx hb dX5_countOf_26 hl (by decide) rfl (fun ls hl => ?_)
    have lp_3 : ∀ (nn : Nat) (i : Nat), (i ≤ n) → (n - i) < nn → ∀ (H : Heap) (locs : List Loc), va_P D vwCl [(m0, .inr (5, [.ref g0, .ref g1, .ref g2, .int (nI ms), .ref g3, .ref g4, .int (nI N), .int (nI ax), .ref g5, .ref g6, .int fa, .int ho, .int la, .int fs, .ref g7, .ref g8])), (g0, .inl (cI, 58, .inl (rowL (n, P, F, G))))] H → va_D AM [(m0, .inr (5, [.ref g0, .ref g1, .ref g2, .int (nI ms), .ref g3, .ref g4, .int (nI N), .int (nI ax), .ref g5, .ref g6, .int fa, .int ho, .int la, .int fs, .ref g7, .ref g8])), (g0, .inl (cI, 58, .inl (rowL (n, P, F, G))))] → va_S AM sM.heap H locs → ∀ (ls : Array Slot), lv_has ls 5 [(0, .ref m0), (1, .int w), (2, .int (sumB F i)), (3, .int (sumH F i)), (4, .int (nI i))] → W pM l eM ({ frames := 2, cells := 0, slots := 0, locals := 43 } : Room) sM mM ([.ref m0, .int w] : List Value).toArray below meth cM H locs 0 0 (MQ below (QI D (fun (r : Int32) (_ : Unit) => r = cntF (n, P, F, G) w) (fun (u : Unit) => [(m0, .inr (5, [.ref g0, .ref g1, .ref g2, .int (nI ms), .ref g3, .ref g4, .int (nI N), .int (nI ax), .ref g5, .ref g6, .int fa, .int ho, .int la, .int fs, .ref g7, .ref g8])), (g0, .inl (cI, 58, .inl (rowL (n, P, F, G))))]) AM) ([.ref m0, .int w] : List Value).toArray sM 0 0 AM) (F0 mM 28 ls []) := by
      intro nn
      induction nn with
      | zero =>
        intro i hi hm
        exact absurd hm (Nat.not_lt_zero _)
      | succ nn ih_4 =>
        intro i hi hm H locs hP hD hS ls hl
        refine lv_iload hx hb dX5_countOf_28 (lv_at hl 4 rfl) ?_
        refine lv_aload_n hx hb dX5_countOf_30 rfl (lv_at hl 0 rfl) ?_
        refine va_get (D := D) (ci := 5) (v := .ref g0) (C := RX5) (T := TX5) (N := 16) hx hb hts in_X5_countOf_5 hown hK hP 0 rfl rfl 0 (by decide) (hts (.fieldLink RX5 7 "HoseSpansModel" "now" "[I") (List.mem_of_getElem? (i := 1) (by decide +kernel))) (fun _ h9 => h9) rfl dX5_countOf_31 ?_
        refine lv_iconst (v := 0) hx hb dX5_countOf_34 (by decide) ?_
        refine va_iald hx hb hK hP 1 0 rfl rfl (vp_in_nI (n := 0) (by decide) (by decide)) dX5_countOf_35 ?_
        refine e_n (y := (rowL (n, P, F, G)) 0) (congrArg (rowL (n, P, F, G)) (by decide)) ?_
        refine e_n (y := nI n) rfl ?_
        refine lv_icmp_ge (tgt := 64) hx hb dX5_countOf_36 (by decide) (fun c_5 => ?_) (fun c_5 => ?_)
        · have c_5 := Int32.not_lt.mpr c_5
          have c_5 : i = n := by have h := mt (nI_ltI (a := i) (b := n) (by omega) (by omega)).mpr c_5; omega
          refine lv_iload_n hx hb dX5_countOf_64 rfl (lv_at hl 1 rfl) ?_
          refine lv_if_ne (tgt := 80) hx hb dX5_countOf_65 (by decide) (fun c_6 => ?_) (fun c_6 => ?_)
          · have h0 := c_6
            refine lv_iload_n hx hb dX5_countOf_80 rfl (lv_at hl 1 rfl) ?_
            refine lv_iconst (v := 1) hx hb dX5_countOf_81 (by decide) ?_
            refine lv_icmp_ne (tgt := 94) hx hb dX5_countOf_82 (by decide) (fun c_7 => ?_) (fun c_7 => ?_)
            · have h1 := c_7
              refine lv_iload_n hx hb dX5_countOf_94 rfl (lv_at hl 1 rfl) ?_
              refine lv_iconst (v := 2) hx hb dX5_countOf_95 (by decide) ?_
              refine lv_icmp_ne (tgt := 108) hx hb dX5_countOf_96 (by decide) (fun c_8 => ?_) (fun c_8 => ?_)
              · have h2 := c_8
                refine lv_iload_n hx hb dX5_countOf_108 rfl (lv_at hl 1 rfl) ?_
                refine lv_iconst (v := 3) hx hb dX5_countOf_109 (by decide) ?_
                refine lv_icmp_ne (tgt := 117) hx hb dX5_countOf_110 (by decide) (fun c_9 => ?_) (fun c_9 => ?_)
                · have h3 := c_9
                  refine lv_iload_n hx hb dX5_countOf_117 rfl (lv_at hl 3 rfl) ?_
                  refine e_i (u := ()) hx hb hr hlocks hP hD hS dX5_countOf_118 ?_ ?_
                  · rfl
                  · rw [‹i = n›]; exact cnt_10 (L := (n, P, F, G)) hr9 hns h0 h1 h2 h3
                · have h3 := c_9
                  refine lv_iload_n hx hb dX5_countOf_113 rfl (lv_at hl 2 rfl) ?_
                  refine lv_goto (tgt := 118) hx hb dX5_countOf_114 (by decide) ?_
                  refine e_i (u := ()) hx hb hr hlocks hP hD hS dX5_countOf_118 ?_ ?_
                  · rfl
                  · rw [‹i = n›]; exact cnt_3 (L := (n, P, F, G)) h0 h1 h2 h3
              · have h2 := c_8
                refine lv_aload_n hx hb dX5_countOf_99 rfl (lv_at hl 0 rfl) ?_
                refine va_get (D := D) (ci := 5) (v := .ref g0) (C := RX5) (T := TX5) (N := 16) hx hb hts in_X5_countOf_5 hown hK hP 0 rfl rfl 0 (by decide) (hts (.fieldLink RX5 7 "HoseSpansModel" "now" "[I") (List.mem_of_getElem? (i := 1) (by decide +kernel))) (fun _ h9 => h9) rfl dX5_countOf_100 ?_
                refine lv_iconst (v := 0) hx hb dX5_countOf_103 (by decide) ?_
                refine va_iald hx hb hK hP 1 0 rfl rfl (vp_in_nI (n := 0) (by decide) (by decide)) dX5_countOf_104 ?_
                refine e_n (y := (rowL (n, P, F, G)) 0) (congrArg (rowL (n, P, F, G)) (by decide)) ?_
                refine e_n (y := nI n) rfl ?_
                refine lv_goto (tgt := 118) hx hb dX5_countOf_105 (by decide) ?_
                refine e_i (u := ()) hx hb hr hlocks hP hD hS dX5_countOf_118 ?_ ?_
                · rfl
                · exact cnt_2 (L := (n, P, F, G)) h0 h1 h2
            · have h1 := c_7
              refine lv_aload_n hx hb dX5_countOf_85 rfl (lv_at hl 0 rfl) ?_
              refine va_get (D := D) (ci := 5) (v := .ref g0) (C := RX5) (T := TX5) (N := 16) hx hb hts in_X5_countOf_5 hown hK hP 0 rfl rfl 0 (by decide) (hts (.fieldLink RX5 7 "HoseSpansModel" "now" "[I") (List.mem_of_getElem? (i := 1) (by decide +kernel))) (fun _ h9 => h9) rfl dX5_countOf_86 ?_
              refine lv_iconst (v := 1) hx hb dX5_countOf_89 (by decide) ?_
              refine va_iald hx hb hK hP 1 0 rfl rfl (vp_in_nI (n := 1) (by decide) (by decide)) dX5_countOf_90 ?_
              refine e_n (y := (rowL (n, P, F, G)) 1) (congrArg (rowL (n, P, F, G)) (by decide)) ?_
              refine e_n (y := P) rfl ?_
              refine lv_goto (tgt := 118) hx hb dX5_countOf_91 (by decide) ?_
              refine e_i (u := ()) hx hb hr hlocks hP hD hS dX5_countOf_118 ?_ ?_
              · rfl
              · exact cnt_1 (L := (n, P, F, G)) h0 h1
          · have h0 := c_6
            refine lv_aload_n hx hb dX5_countOf_68 rfl (lv_at hl 0 rfl) ?_
            refine va_get (D := D) (ci := 5) (v := .ref g0) (C := RX5) (T := TX5) (N := 16) hx hb hts in_X5_countOf_5 hown hK hP 0 rfl rfl 0 (by decide) (hts (.fieldLink RX5 7 "HoseSpansModel" "now" "[I") (List.mem_of_getElem? (i := 1) (by decide +kernel))) (fun _ h9 => h9) rfl dX5_countOf_69 ?_
            refine lv_iconst (v := 1) hx hb dX5_countOf_72 (by decide) ?_
            refine va_iald hx hb hK hP 1 0 rfl rfl (vp_in_nI (n := 1) (by decide) (by decide)) dX5_countOf_73 ?_
            refine e_n (y := (rowL (n, P, F, G)) 1) (congrArg (rowL (n, P, F, G)) (by decide)) ?_
            refine e_n (y := P) rfl ?_
            refine k_i (va_runS (As := [.int P]) (rest := []) ⟨hx, hb, hml, hown, hts⟩ (c_X5_ones l D cI cB cO H.size P (by first | assumption | omega)) (va_cwS 1 hts gX5_countOf_X5_ones rfl rfl rfl (by decide +kernel) ⟨Nat.le_of_ble_eq_true rfl, Nat.le_of_ble_eq_true rfl⟩) (preS_of hK hP hD hS hA hSt [] (by decide) rfl) rfl rfl hl.1 rfl (lv_room (Nat.le_of_ble_eq_true rfl)) dX5_countOf_74 ⟨Nat.le_of_ble_eq_true rfl, Nat.le_of_ble_eq_true rfl⟩) hP hD hS hA [] [0, 1] [0, 1] [(m0, .inr (5, [.ref g0, .ref g1, .ref g2, .int (nI ms), .ref g3, .ref g4, .int (nI N), .int (nI ax), .ref g5, .ref g6, .int fa, .int ho, .int la, .int fs, .ref g7, .ref g8])), (g0, .inl (cI, 58, .inl (rowL (n, P, F, G))))] (fun (u_10 : Unit) => [(m0, .inr (5, [.ref g0, .ref g1, .ref g2, .int (nI ms), .ref g3, .ref g4, .int (nI N), .int (nI ax), .ref g5, .ref g6, .int fa, .int ho, .int la, .int fs, .ref g7, .ref g8])), (g0, .inl (cI, 58, .inl (rowL (n, P, F, G))))]) rfl rfl (by decide) (by decide) (by decide) (fun _ => rfl) (fun r_10 u_10 H locs q_10 hP hD hS => ?_)
            obtain rfl : r_10 = bcI P := q_10
            refine lv_goto (tgt := 118) hx hb dX5_countOf_77 (by decide) ?_
            refine e_i (u := ()) hx hb hr hlocks hP hD hS dX5_countOf_118 ?_ ?_
            · rfl
            · exact cnt_0 (L := (n, P, F, G)) h0
        · have c_5 := Int32.not_le.mp c_5
          have c_5 : i < n := (nI_ltI (by omega) (by omega)).mp c_5
          refine lv_iload_n hx hb dX5_countOf_39 rfl (lv_at hl 2 rfl) ?_
          refine lv_aload_n hx hb dX5_countOf_40 rfl (lv_at hl 0 rfl) ?_
          refine lv_iload hx hb dX5_countOf_41 (lv_at hl 4 rfl) ?_
          refine lv_iconst (v := 4) hx hb dX5_countOf_43 (by decide) ?_
          refine k_i (va_runV (As := [.int (nI i), .int (nI 4)]) (rest := [.int (sumB F i)]) ⟨hx, hb, hml, hown, hts⟩ (c_X5_ofSpan l D cI cB cO H.size m0 g0 g1 g2 g3 g4 g5 g6 g7 g8 ms N ax fa ho la fs n P F G i 4 (by first | assumption | omega)) (cwV 2 hts gX5_countOf_X5_ofSpan rfl rfl rfl (by decide +kernel) ⟨Nat.le_of_ble_eq_true rfl, Nat.le_of_ble_eq_true rfl⟩) (preV_of hK hP hD hS hA hSt [0, 1] (by decide) rfl 0 (ci := 5) rfl rfl) rfl rfl hl.1 rfl (lv_room (Nat.le_of_ble_eq_true rfl)) dX5_countOf_44 ⟨Nat.le_of_ble_eq_true rfl, Nat.le_of_ble_eq_true rfl⟩) hP hD hS hA [0, 1] [] [0, 1] [] (fun (u_11 : Unit) => [(m0, .inr (5, [.ref g0, .ref g1, .ref g2, .int (nI ms), .ref g3, .ref g4, .int (nI N), .int (nI ax), .ref g5, .ref g6, .int fa, .int ho, .int la, .int fs, .ref g7, .ref g8])), (g0, .inl (cI, 58, .inl (rowL (n, P, F, G))))]) rfl rfl (by decide) (by decide) (by decide) (fun _ => rfl) (fun r_11 u_11 H locs q_11 hP hD hS => ?_)
          obtain rfl : r_11 = F (i * 5 + 4) := q_11
          refine lv_iadd hx hb dX5_countOf_47 ?_
          refine lv_istore_n (lv' := [(2, .int ((sumB F i) + (F (i * 5 + 4)))), (0, .ref m0), (1, .int w), (3, .int (sumH F i)), (4, .int (nI i))]) hx hb dX5_countOf_48 rfl hl (by decide) rfl (fun ls hl => ?_)
          refine lv_iload_n hx hb dX5_countOf_49 rfl (lv_at hl 3 rfl) ?_
          refine lv_aload_n hx hb dX5_countOf_50 rfl (lv_at hl 1 rfl) ?_
          refine lv_iload hx hb dX5_countOf_51 (lv_at hl 4 rfl) ?_
          refine k_i (va_runV (As := [.int (nI i)]) (rest := [.int (sumH F i)]) ⟨hx, hb, hml, hown, hts⟩ (c_X5_lengthsOf l D cI cB cO H.size m0 g0 g1 g2 g3 g4 g5 g6 g7 g8 ms N ax fa ho la fs n P F G i (by first | assumption | omega)) (cwV 1 hts gX5_countOf_X5_lengthsOf rfl rfl rfl (by decide +kernel) ⟨Nat.le_of_ble_eq_true rfl, Nat.le_of_ble_eq_true rfl⟩) (preV_of hK hP hD hS hA hSt [0, 1] (by decide) rfl 0 (ci := 5) rfl rfl) rfl rfl hl.1 rfl (lv_room (Nat.le_of_ble_eq_true rfl)) dX5_countOf_53 ⟨Nat.le_of_ble_eq_true rfl, Nat.le_of_ble_eq_true rfl⟩) hP hD hS hA [0, 1] [] [0, 1] [] (fun (u_12 : Unit) => [(m0, .inr (5, [.ref g0, .ref g1, .ref g2, .int (nI ms), .ref g3, .ref g4, .int (nI N), .int (nI ax), .ref g5, .ref g6, .int fa, .int ho, .int la, .int fs, .ref g7, .ref g8])), (g0, .inl (cI, 58, .inl (rowL (n, P, F, G))))]) rfl rfl (by decide) (by decide) (by decide) (fun _ => rfl) (fun r_12 u_12 H locs q_12 hP hD hS => ?_)
          obtain rfl : r_12 = hosesF F i := q_12
          refine lv_iadd hx hb dX5_countOf_56 ?_
          refine lv_istore_n (lv' := [(3, .int ((sumH F i) + (hosesF F i))), (2, .int ((sumB F i) + (F (i * 5 + 4)))), (0, .ref m0), (1, .int w), (4, .int (nI i))]) hx hb dX5_countOf_57 rfl hl (by decide) rfl (fun ls hl => ?_)
          refine lv_iinc (v := nI (i + 1)) (lv' := [(4, .int (nI (i + 1))), (3, .int ((sumH F i) + (hosesF F i))), (2, .int ((sumB F i) + (F (i * 5 + 4)))), (0, .ref m0), (1, .int w)]) hx hb dX5_countOf_58 hl (k := 4) rfl (nI_add i 1) (by decide) rfl (fun ls hl => ?_)
          refine lv_goto (tgt := 28) hx hb dX5_countOf_61 (by decide) ?_
          have hl9 : lv_has ls 5 [(0, .ref m0), (1, .int w), (2, .int ((sumB F i) + (F (i * 5 + 4)))), (3, .int ((sumH F i) + (hosesF F i))), (4, .int (nI (i + 1)))] := lv_sub hl [3, 4, 2, 1, 0] rfl
          rw [show ([(0, .ref m0), (1, .int w), (2, .int ((sumB F i) + (F (i * 5 + 4)))), (3, .int ((sumH F i) + (hosesF F i))), (4, .int (nI (i + 1)))] : List (Nat × Value)) = [(0, .ref m0), (1, .int w), (2, .int (sumB F (i + 1))), (3, .int (sumH F (i + 1))), (4, .int (nI (i + 1)))] from rfl] at hl9
          exact ih_4 (i + 1) (by first | assumption | omega) (by omega) H locs hP hD hS ls hl9
    have hl9 : lv_has ls 5 [(0, .ref m0), (1, .int w), (2, .int 0), (3, .int 0), (4, .int 0)] := lv_sub hl [3, 4, 2, 1, 0] rfl
    rw [show ([(0, .ref m0), (1, .int w), (2, .int 0), (3, .int 0), (4, .int 0)] : List (Nat × Value)) = [(0, .ref m0), (1, .int w), (2, .int (sumB F 0)), (3, .int (sumH F 0)), (4, .int (nI 0))] from rfl] at hl9
    exact lp_3 ((n - 0) + 1) 0 (by first | assumption | omega) (Nat.lt_succ_self _) H locs hP hD hS ls hl9
  · have c_2 := bI_n0.mp c_2
    obtain ⟨k, hk4, hk9, rfl⟩ := in49 c_2
    refine lv_aload_n hx hb dX5_countOf_10 rfl (lv_at hl 0 rfl) ?_
    refine va_get (D := D) (ci := 5) (v := .ref g0) (C := RX5) (T := TX5) (N := 16) hx hb hts in_X5_countOf_5 hown hK hP 0 rfl rfl 0 (by decide) (hts (.fieldLink RX5 7 "HoseSpansModel" "now" "[I") (List.mem_of_getElem? (i := 1) (by decide +kernel))) (fun _ h9 => h9) rfl dX5_countOf_11 ?_
    refine lv_iconst (v := 2) hx hb dX5_countOf_14 (by decide) ?_
    refine lv_iload_n hx hb dX5_countOf_15 rfl (lv_at hl 1 rfl) ?_
    refine lv_iadd hx hb dX5_countOf_16 ?_
    refine e_n (y := nI (2 + k)) (nI_add 2 k) ?_
    refine lv_iconst (v := 4) hx hb dX5_countOf_17 (by decide) ?_
    refine lv_isub hx hb dX5_countOf_18 ?_
    refine e_n (y := nI (2 + k - 4)) (pk_sub (a := 2 + k) (b := 4) (by omega)) ?_
    refine e_n (y := nI (2 + (k - 4))) (congrArg nI (by omega)) ?_
    refine va_iald hx hb hK hP 1 0 rfl rfl (vp_in_nI (by omega) (by decide)) dX5_countOf_19 ?_
    refine e_n (y := (rowL (n, P, F, G)) (2 + (k - 4))) (congrArg (rowL (n, P, F, G)) (nI_clamp (by omega))) ?_
    refine e_n (y := G (k - 4)) (row_g (by omega)) ?_
    refine e_i (u := ()) hx hb hr hlocks hP hD hS dX5_countOf_20 ?_ ?_
    · rfl
    · exact cnt_set (L := (n, P, F, G)) hk4 hk9
set_option maxHeartbeats 4000000 in
set_option maxRecDepth 100000 in
theorem c_X5_count (l : Launch) (D : va_G) (cI cB cO : ClassId) (sz : Nat) (m0 g0 g1 g2 g3 g4 g5 g6 g7 g8 ms N ax : Nat) (fa ho la fs : Int32) (n : Nat) (P : Int32) (F G : Nat → Int32) (rb rn rf : Int32) (w : Int32) (hn : n ≤ 10) (hp : okPumps P) : CI l yX5_count wsX5_count ({ frames := 3, cells := 0, slots := 0, locals := 67 } : Room) D (tyL cI cB cO) [.ref m0, .int w] [(m0, .inr (5, [.ref g0, .ref g1, .ref g2, .int (nI ms), .ref g3, .ref g4, .int (nI N), .int (nI ax), .ref g5, .ref g6, .int fa, .int ho, .int la, .int fs, .ref g7, .ref g8])), (g0, .inl (cI, 58, .inl (rowL (n, P, F, G)))), (g3, .inl (cI, 3, .inl (ref3 rb rn rf)))] sz (fun (r : Int32) (_ : Unit) => r = rB (inR w 0 10) (cntF (n, P, F, G) w)) (fun (u : Unit) => [(m0, .inr (5, [.ref g0, .ref g1, .ref g2, .int (nI ms), .ref g3, .ref g4, .int (nI N), .int (nI ax), .ref g5, .ref g6, .int fa, .int ho, .int la, .int fs, .ref g7, .ref g8])), (g0, .inl (cI, 58, .inl (rowL (n, P, F, G)))), (g3, .inl (cI, 3, .inl (ref3 (bR (inR w 0 10) rb) rn rf)))]) 0 0 := by
  refine ct_of (cc := cX5_count) (maxL := 2) (ret := some .int) (own := RX5) (Qc := QI D (fun (r : Int32) (_ : Unit) => r = rB (inR w 0 10) (cntF (n, P, F, G) w)) (fun (u : Unit) => [(m0, .inr (5, [.ref g0, .ref g1, .ref g2, .int (nI ms), .ref g3, .ref g4, .int (nI N), .int (nI ax), .ref g5, .ref g6, .int fa, .int ho, .int la, .int fs, .ref g7, .ref g8])), (g0, .inl (cI, 58, .inl (rowL (n, P, F, G)))), (g3, .inl (cI, 3, .inl (ref3 (bR (inR w 0 10) rb) rn rf)))])) (by decide) rfl rfl (Nat.le_of_ble_eq_true rfl) ?_
  intro pM eM sM mM below meth cM AM ls H locs hx hb hr hts hown hlocks hml hin hK hP hD hS hA hSt hl
  have hl : lv_has ls 2 [(0, .ref m0), (1, .int w)] := hl
  refine lv_iload_n hx hb dX5_count_0 rfl (lv_at hl 1 rfl) ?_
  refine lv_iconst (v := 0) hx hb dX5_count_1 (by decide) ?_
  refine lv_bipush (v := 10) hx hb dX5_count_2 (by decide) ?_
  refine k_i (va_runS (As := [.int w, .int 0, .int 10]) (rest := []) ⟨hx, hb, hml, hown, hts⟩ (c_X5_in l D cI cB cO H.size w 0 10 ) (va_cwS 3 hts gX5_count_X5_in rfl rfl rfl (by decide +kernel) ⟨Nat.le_of_ble_eq_true rfl, Nat.le_of_ble_eq_true rfl⟩) (preS_of hK hP hD hS hA hSt [] (by decide) rfl) rfl rfl hl.1 rfl (lv_room (Nat.le_of_ble_eq_true rfl)) dX5_count_4 ⟨Nat.le_of_ble_eq_true rfl, Nat.le_of_ble_eq_true rfl⟩) hP hD hS hA [] [0, 1, 2] [0, 1, 2] [(m0, .inr (5, [.ref g0, .ref g1, .ref g2, .int (nI ms), .ref g3, .ref g4, .int (nI N), .int (nI ax), .ref g5, .ref g6, .int fa, .int ho, .int la, .int fs, .ref g7, .ref g8])), (g0, .inl (cI, 58, .inl (rowL (n, P, F, G)))), (g3, .inl (cI, 3, .inl (ref3 rb rn rf)))] (fun (u_1 : Unit) => [(m0, .inr (5, [.ref g0, .ref g1, .ref g2, .int (nI ms), .ref g3, .ref g4, .int (nI N), .int (nI ax), .ref g5, .ref g6, .int fa, .int ho, .int la, .int fs, .ref g7, .ref g8])), (g0, .inl (cI, 58, .inl (rowL (n, P, F, G)))), (g3, .inl (cI, 3, .inl (ref3 rb rn rf)))]) rfl rfl (by decide) (by decide) (by decide) (fun _ => rfl) (fun r_1 u_1 H locs q_1 hP hD hS => ?_)
  obtain rfl : r_1 = bI (inR w 0 10) := q_1
  refine lv_if_eq (tgt := 18) hx hb dX5_count_7 (by decide) (fun c_2 => ?_) (fun c_2 => ?_)
  · have c_2 := bI_0.mp c_2
    refine lv_aload_n hx hb dX5_count_18 rfl (lv_at hl 0 rfl) ?_
    refine lv_ldc (v := -1000002) hx hb hown (hts (.constant RX5 37 (-1000002)) (List.mem_of_getElem? (i := 1) (by decide +kernel))) dX5_count_19 ?_
    refine k_i (va_runV (As := [.int (-1000002)]) (rest := []) ⟨hx, hb, hml, hown, hts⟩ (c_X5_refuse l D cI cB cO H.size m0 g0 g1 g2 g3 g4 g5 g6 g7 g8 ms N ax fa ho la fs rb rn rf (-1000002) (by decide)) (cwV 1 hts gX5_count_X5_refuse rfl rfl rfl (by decide +kernel) ⟨Nat.le_of_ble_eq_true rfl, Nat.le_of_ble_eq_true rfl⟩) (preV_of hK hP hD hS hA hSt [0, 2] (by decide) rfl 0 (ci := 5) rfl rfl) rfl rfl hl.1 rfl (lv_room (Nat.le_of_ble_eq_true rfl)) dX5_count_21 ⟨Nat.le_of_ble_eq_true rfl, Nat.le_of_ble_eq_true rfl⟩) hP hD hS hA [0, 2] [1] [1, 0, 2] [(g0, .inl (cI, 58, .inl (rowL (n, P, F, G))))] (fun (u_3 : Unit) => [(m0, .inr (5, [.ref g0, .ref g1, .ref g2, .int (nI ms), .ref g3, .ref g4, .int (nI N), .int (nI ax), .ref g5, .ref g6, .int fa, .int ho, .int la, .int fs, .ref g7, .ref g8])), (g0, .inl (cI, 58, .inl (rowL (n, P, F, G)))), (g3, .inl (cI, 3, .inl (ref3 (uB (-1000002) rb) (uN (-1000002) rn) (uF (-1000002) rf))))]) rfl rfl (by decide) (by decide) (by decide) (fun _ => rfl) (fun r_3 u_3 H locs q_3 hP hD hS => ?_)
    obtain rfl : r_3 = -1000002 := q_3
    rw [show (ref3 (uB (-1000002) rb) (uN (-1000002) rn) (uF (-1000002) rf)) = (ref3 (bR (inR w 0 10) rb) rn rf) from (by rw [uB_B, uN_B, uF_B, show rb + 1 = bR (inR w 0 10) rb from bR_f (by first | assumption | exact and_f1 (by assumption) | exact and_f2 (by assumption))])] at hP hD
    have hP : va_P D vwCl [(m0, .inr (5, [.ref g0, .ref g1, .ref g2, .int (nI ms), .ref g3, .ref g4, .int (nI N), .int (nI ax), .ref g5, .ref g6, .int fa, .int ho, .int la, .int fs, .ref g7, .ref g8])), (g0, .inl (cI, 58, .inl (rowL (n, P, F, G)))), (g3, .inl (cI, 3, .inl (ref3 (bR (inR w 0 10) rb) rn rf)))] H := hP
    have hD : va_D AM [(m0, .inr (5, [.ref g0, .ref g1, .ref g2, .int (nI ms), .ref g3, .ref g4, .int (nI N), .int (nI ax), .ref g5, .ref g6, .int fa, .int ho, .int la, .int fs, .ref g7, .ref g8])), (g0, .inl (cI, 58, .inl (rowL (n, P, F, G)))), (g3, .inl (cI, 3, .inl (ref3 (bR (inR w 0 10) rb) rn rf)))] := hD
    refine e_i (u := ()) hx hb hr hlocks hP hD hS dX5_count_24 ?_ ?_
    · rfl
    · exact rB_f (by first | assumption | exact and_f1 (by assumption) | exact and_f2 (by assumption))
  · have c_2 := bI_n0.mp c_2
    refine lv_aload_n hx hb dX5_count_10 rfl (lv_at hl 0 rfl) ?_
    refine lv_iload_n hx hb dX5_count_11 rfl (lv_at hl 1 rfl) ?_
    refine k_i (va_runV (As := [.int w]) (rest := []) ⟨hx, hb, hml, hown, hts⟩ (c_X5_countOf l D cI cB cO H.size m0 g0 g1 g2 g3 g4 g5 g6 g7 g8 ms N ax fa ho la fs n P F G w (by first | assumption | omega) (by first | assumption | omega) (by first | assumption | omega)) (cwV 1 hts gX5_count_X5_countOf rfl rfl rfl (by decide +kernel) ⟨Nat.le_of_ble_eq_true rfl, Nat.le_of_ble_eq_true rfl⟩) (preV_of hK hP hD hS hA hSt [0, 1] (by decide) rfl 0 (ci := 5) rfl rfl) rfl rfl hl.1 rfl (lv_room (Nat.le_of_ble_eq_true rfl)) dX5_count_12 ⟨Nat.le_of_ble_eq_true rfl, Nat.le_of_ble_eq_true rfl⟩) hP hD hS hA [0, 1] [2] [1, 2, 0] [(g3, .inl (cI, 3, .inl (ref3 rb rn rf)))] (fun (u_4 : Unit) => [(m0, .inr (5, [.ref g0, .ref g1, .ref g2, .int (nI ms), .ref g3, .ref g4, .int (nI N), .int (nI ax), .ref g5, .ref g6, .int fa, .int ho, .int la, .int fs, .ref g7, .ref g8])), (g0, .inl (cI, 58, .inl (rowL (n, P, F, G)))), (g3, .inl (cI, 3, .inl (ref3 rb rn rf)))]) rfl rfl (by decide) (by decide) (by decide) (fun _ => rfl) (fun r_4 u_4 H locs q_4 hP hD hS => ?_)
    obtain rfl : r_4 = cntF (n, P, F, G) w := q_4
    refine lv_goto (tgt := 24) hx hb dX5_count_15 (by decide) ?_
    rw [show (ref3 rb rn rf) = (ref3 (bR (inR w 0 10) rb) rn rf) from (congrArg (fun z => ref3 z rn rf) (bR_t (by first | assumption | exact and_t2 (by assumption) (by assumption))))] at hP hD
    have hP : va_P D vwCl [(m0, .inr (5, [.ref g0, .ref g1, .ref g2, .int (nI ms), .ref g3, .ref g4, .int (nI N), .int (nI ax), .ref g5, .ref g6, .int fa, .int ho, .int la, .int fs, .ref g7, .ref g8])), (g0, .inl (cI, 58, .inl (rowL (n, P, F, G)))), (g3, .inl (cI, 3, .inl (ref3 (bR (inR w 0 10) rb) rn rf)))] H := hP
    have hD : va_D AM [(m0, .inr (5, [.ref g0, .ref g1, .ref g2, .int (nI ms), .ref g3, .ref g4, .int (nI N), .int (nI ax), .ref g5, .ref g6, .int fa, .int ho, .int la, .int fs, .ref g7, .ref g8])), (g0, .inl (cI, 58, .inl (rowL (n, P, F, G)))), (g3, .inl (cI, 3, .inl (ref3 (bR (inR w 0 10) rb) rn rf)))] := hD
    refine e_i (u := ()) hx hb hr hlocks hP hD hS dX5_count_24 ?_ ?_
    · rfl
    · exact rB_t (by first | assumption | exact and_t2 (by assumption) (by assumption))
set_option maxHeartbeats 4000000 in
set_option maxRecDepth 100000 in
theorem c_X5_areTimes (l : Launch) (D : va_G) (cI cB cO : ClassId) (sz : Nat) (vv aa dd ee : Int32)  : CI l yX5_areTimes wsX5_areTimes ({ frames := 1, cells := 0, slots := 0, locals := 22 } : Room) D (tyL cI cB cO) [.int vv, .int aa, .int dd, .int ee] [] sz (fun (r : Int32) (_ : Unit) => r = bI (tripB vv aa dd ee)) (fun (u : Unit) => []) 0 0 := by
  refine ct_of (cc := cX5_areTimes) (maxL := 4) (ret := some .boolean) (own := RX5) (Qc := QI D (fun (r : Int32) (_ : Unit) => r = bI (tripB vv aa dd ee)) (fun (u : Unit) => [])) (by decide) rfl rfl (Nat.le_of_ble_eq_true rfl) ?_
  intro pM eM sM mM below meth cM AM ls H locs hx hb hr hts hown hlocks hml hin hK hP hD hS hA hSt hl
  have hl : lv_has ls 4 [(0, .int vv), (1, .int aa), (2, .int dd), (3, .int ee)] := hl
  refine lv_iload_n hx hb dX5_areTimes_0 rfl (lv_at hl 0 rfl) ?_
  refine lv_iconst (v := 1) hx hb dX5_areTimes_1 (by decide) ?_
  refine lv_bipush (v := 99) hx hb dX5_areTimes_2 (by decide) ?_
  refine k_i (va_runS (As := [.int vv, .int 1, .int 99]) (rest := []) ⟨hx, hb, hml, hown, hts⟩ (c_X5_in l D cI cB cO H.size vv 1 99 ) (va_cwS 3 hts gX5_areTimes_X5_in rfl rfl rfl (by decide +kernel) ⟨Nat.le_of_ble_eq_true rfl, Nat.le_of_ble_eq_true rfl⟩) (preS_of hK hP hD hS hA hSt [] (by decide) rfl) rfl rfl hl.1 rfl (lv_room (Nat.le_of_ble_eq_true rfl)) dX5_areTimes_4 ⟨Nat.le_of_ble_eq_true rfl, Nat.le_of_ble_eq_true rfl⟩) hP hD hS hA [] [] [] [] (fun (u_1 : Unit) => []) rfl rfl (by decide) (by decide) (by decide) (fun _ => rfl) (fun r_1 u_1 H locs q_1 hP hD hS => ?_)
  obtain rfl : r_1 = bI (inR vv 1 99) := q_1
  refine lv_if_eq (tgt := 44) hx hb dX5_areTimes_7 (by decide) (fun c_2 => ?_) (fun c_2 => ?_)
  · have c_2 := bI_0.mp c_2
    refine lv_iconst (v := 0) hx hb dX5_areTimes_44 (by decide) ?_
    refine e_z (u := ()) hx hb hr (by first | rfl | exact bI_nar _) hlocks hP hD hS dX5_areTimes_45 ?_ ?_
    · rfl
    · first | exact bI_t (tripB_ok (by assumption) (by assumption) (by assumption) (by assumption)) | exact bI_f (tripB_f1 (by assumption)) | exact bI_f (tripB_f2 (by assumption)) | exact bI_f (tripB_f3 (by assumption)) | exact bI_f (tripB_f4 (by assumption))
  · have c_2 := bI_n0.mp c_2
    refine lv_iload_n hx hb dX5_areTimes_10 rfl (lv_at hl 1 rfl) ?_
    refine lv_iconst (v := 1) hx hb dX5_areTimes_11 (by decide) ?_
    refine lv_bipush (v := 99) hx hb dX5_areTimes_12 (by decide) ?_
    refine k_i (va_runS (As := [.int aa, .int 1, .int 99]) (rest := []) ⟨hx, hb, hml, hown, hts⟩ (c_X5_in l D cI cB cO H.size aa 1 99 ) (va_cwS 3 hts gX5_areTimes_X5_in rfl rfl rfl (by decide +kernel) ⟨Nat.le_of_ble_eq_true rfl, Nat.le_of_ble_eq_true rfl⟩) (preS_of hK hP hD hS hA hSt [] (by decide) rfl) rfl rfl hl.1 rfl (lv_room (Nat.le_of_ble_eq_true rfl)) dX5_areTimes_14 ⟨Nat.le_of_ble_eq_true rfl, Nat.le_of_ble_eq_true rfl⟩) hP hD hS hA [] [] [] [] (fun (u_3 : Unit) => []) rfl rfl (by decide) (by decide) (by decide) (fun _ => rfl) (fun r_3 u_3 H locs q_3 hP hD hS => ?_)
    obtain rfl : r_3 = bI (inR aa 1 99) := q_3
    refine lv_if_eq (tgt := 44) hx hb dX5_areTimes_17 (by decide) (fun c_4 => ?_) (fun c_4 => ?_)
    · have c_4 := bI_0.mp c_4
      refine lv_iconst (v := 0) hx hb dX5_areTimes_44 (by decide) ?_
      refine e_z (u := ()) hx hb hr (by first | rfl | exact bI_nar _) hlocks hP hD hS dX5_areTimes_45 ?_ ?_
      · rfl
      · first | exact bI_t (tripB_ok (by assumption) (by assumption) (by assumption) (by assumption)) | exact bI_f (tripB_f1 (by assumption)) | exact bI_f (tripB_f2 (by assumption)) | exact bI_f (tripB_f3 (by assumption)) | exact bI_f (tripB_f4 (by assumption))
    · have c_4 := bI_n0.mp c_4
      refine lv_iload_n hx hb dX5_areTimes_20 rfl (lv_at hl 2 rfl) ?_
      refine lv_iconst (v := 1) hx hb dX5_areTimes_21 (by decide) ?_
      refine lv_bipush (v := 99) hx hb dX5_areTimes_22 (by decide) ?_
      refine k_i (va_runS (As := [.int dd, .int 1, .int 99]) (rest := []) ⟨hx, hb, hml, hown, hts⟩ (c_X5_in l D cI cB cO H.size dd 1 99 ) (va_cwS 3 hts gX5_areTimes_X5_in rfl rfl rfl (by decide +kernel) ⟨Nat.le_of_ble_eq_true rfl, Nat.le_of_ble_eq_true rfl⟩) (preS_of hK hP hD hS hA hSt [] (by decide) rfl) rfl rfl hl.1 rfl (lv_room (Nat.le_of_ble_eq_true rfl)) dX5_areTimes_24 ⟨Nat.le_of_ble_eq_true rfl, Nat.le_of_ble_eq_true rfl⟩) hP hD hS hA [] [] [] [] (fun (u_5 : Unit) => []) rfl rfl (by decide) (by decide) (by decide) (fun _ => rfl) (fun r_5 u_5 H locs q_5 hP hD hS => ?_)
      obtain rfl : r_5 = bI (inR dd 1 99) := q_5
      refine lv_if_eq (tgt := 44) hx hb dX5_areTimes_27 (by decide) (fun c_6 => ?_) (fun c_6 => ?_)
      · have c_6 := bI_0.mp c_6
        refine lv_iconst (v := 0) hx hb dX5_areTimes_44 (by decide) ?_
        refine e_z (u := ()) hx hb hr (by first | rfl | exact bI_nar _) hlocks hP hD hS dX5_areTimes_45 ?_ ?_
        · rfl
        · first | exact bI_t (tripB_ok (by assumption) (by assumption) (by assumption) (by assumption)) | exact bI_f (tripB_f1 (by assumption)) | exact bI_f (tripB_f2 (by assumption)) | exact bI_f (tripB_f3 (by assumption)) | exact bI_f (tripB_f4 (by assumption))
      · have c_6 := bI_n0.mp c_6
        refine lv_iload_n hx hb dX5_areTimes_30 rfl (lv_at hl 3 rfl) ?_
        refine lv_iconst (v := 1) hx hb dX5_areTimes_31 (by decide) ?_
        refine lv_bipush (v := 99) hx hb dX5_areTimes_32 (by decide) ?_
        refine k_i (va_runS (As := [.int ee, .int 1, .int 99]) (rest := []) ⟨hx, hb, hml, hown, hts⟩ (c_X5_in l D cI cB cO H.size ee 1 99 ) (va_cwS 3 hts gX5_areTimes_X5_in rfl rfl rfl (by decide +kernel) ⟨Nat.le_of_ble_eq_true rfl, Nat.le_of_ble_eq_true rfl⟩) (preS_of hK hP hD hS hA hSt [] (by decide) rfl) rfl rfl hl.1 rfl (lv_room (Nat.le_of_ble_eq_true rfl)) dX5_areTimes_34 ⟨Nat.le_of_ble_eq_true rfl, Nat.le_of_ble_eq_true rfl⟩) hP hD hS hA [] [] [] [] (fun (u_7 : Unit) => []) rfl rfl (by decide) (by decide) (by decide) (fun _ => rfl) (fun r_7 u_7 H locs q_7 hP hD hS => ?_)
        obtain rfl : r_7 = bI (inR ee 1 99) := q_7
        refine lv_if_eq (tgt := 44) hx hb dX5_areTimes_37 (by decide) (fun c_8 => ?_) (fun c_8 => ?_)
        · have c_8 := bI_0.mp c_8
          refine lv_iconst (v := 0) hx hb dX5_areTimes_44 (by decide) ?_
          refine e_z (u := ()) hx hb hr (by first | rfl | exact bI_nar _) hlocks hP hD hS dX5_areTimes_45 ?_ ?_
          · rfl
          · first | exact bI_t (tripB_ok (by assumption) (by assumption) (by assumption) (by assumption)) | exact bI_f (tripB_f1 (by assumption)) | exact bI_f (tripB_f2 (by assumption)) | exact bI_f (tripB_f3 (by assumption)) | exact bI_f (tripB_f4 (by assumption))
        · have c_8 := bI_n0.mp c_8
          refine lv_iconst (v := 1) hx hb dX5_areTimes_40 (by decide) ?_
          refine lv_goto (tgt := 45) hx hb dX5_areTimes_41 (by decide) ?_
          refine e_z (u := ()) hx hb hr (by first | rfl | exact bI_nar _) hlocks hP hD hS dX5_areTimes_45 ?_ ?_
          · rfl
          · first | exact bI_t (tripB_ok (by assumption) (by assumption) (by assumption) (by assumption)) | exact bI_f (tripB_f1 (by assumption)) | exact bI_f (tripB_f2 (by assumption)) | exact bI_f (tripB_f3 (by assumption)) | exact bI_f (tripB_f4 (by assumption))
set_option maxHeartbeats 4000000 in
set_option maxRecDepth 100000 in
theorem c_X5_bringsBy (l : Launch) (D : va_G) (cI cB cO : ClassId) (sz : Nat) (kk vv aa rr : Int32) (h1 : ¬ rr = 0) (h2 : ¬ aa = 0) : CI l yX5_bringsBy wsX5_bringsBy ({ frames := 0, cells := 0, slots := 0, locals := 0 } : Room) D (tyL cI cB cO) [.int kk, .int vv, .int aa, .int rr] [] sz (fun (r : Int32) (_ : Unit) => r = mn (60 * kk * vv / rr) (60 * vv / aa)) (fun (u : Unit) => []) 0 0 := by
  refine ct_of (cc := cX5_bringsBy) (maxL := 6) (ret := some .int) (own := RX5) (Qc := QI D (fun (r : Int32) (_ : Unit) => r = mn (60 * kk * vv / rr) (60 * vv / aa)) (fun (u : Unit) => [])) (by decide) rfl rfl (Nat.le_of_ble_eq_true rfl) ?_
  intro pM eM sM mM below meth cM AM ls H locs hx hb hr hts hown hlocks hml hin hK hP hD hS hA hSt hl
  have hl : lv_has ls 6 [(0, .int kk), (1, .int vv), (2, .int aa), (3, .int rr)] := hl
  refine lv_bipush (v := 60) hx hb dX5_bringsBy_0 (by decide) ?_
  refine lv_iload_n hx hb dX5_bringsBy_2 rfl (lv_at hl 0 rfl) ?_
  refine lv_imul hx hb dX5_bringsBy_3 ?_
  refine lv_iload_n hx hb dX5_bringsBy_4 rfl (lv_at hl 1 rfl) ?_
  refine lv_imul hx hb dX5_bringsBy_5 ?_
  refine lv_iload_n hx hb dX5_bringsBy_6 rfl (lv_at hl 3 rfl) ?_
  refine lv_idiv hx hb dX5_bringsBy_7 h1 ?_
  refine lv_istore (lv' := [(4, .int (((60 * kk) * vv) / rr)), (0, .int kk), (1, .int vv), (2, .int aa), (3, .int rr)]) hx hb dX5_bringsBy_8 hl (by decide) rfl (fun ls hl => ?_)
  refine lv_bipush (v := 60) hx hb dX5_bringsBy_10 (by decide) ?_
  refine lv_iload_n hx hb dX5_bringsBy_12 rfl (lv_at hl 2 rfl) ?_
  refine lv_imul hx hb dX5_bringsBy_13 ?_
  refine lv_iload_n hx hb dX5_bringsBy_14 rfl (lv_at hl 3 rfl) ?_
  refine lv_idiv hx hb dX5_bringsBy_15 h2 ?_
  refine lv_istore (lv' := [(5, .int ((60 * vv) / aa)), (4, .int (((60 * kk) * vv) / rr)), (0, .int kk), (1, .int vv), (2, .int aa), (3, .int rr)]) hx hb dX5_bringsBy_16 hl (by decide) rfl (fun ls hl => ?_)
  refine lv_iload hx hb dX5_bringsBy_18 (lv_at hl 1 rfl) ?_
  refine lv_iload hx hb dX5_bringsBy_20 (lv_at hl 0 rfl) ?_
  refine lv_icmp_ge (tgt := 30) hx hb dX5_bringsBy_22 (by decide) (fun c_1 => ?_) (fun c_1 => ?_)
  · have c_1 := Int32.not_lt.mpr c_1
    refine lv_iload hx hb dX5_bringsBy_30 (lv_at hl 0 rfl) ?_
    refine e_i (u := ()) hx hb hr hlocks hP hD hS dX5_bringsBy_32 ?_ ?_
    · rfl
    · first | exact mn_x (by assumption) | exact mn_y (by assumption)
  · have c_1 := Int32.not_le.mp c_1
    refine lv_iload hx hb dX5_bringsBy_25 (lv_at hl 1 rfl) ?_
    refine lv_goto (tgt := 32) hx hb dX5_bringsBy_27 (by decide) ?_
    refine e_i (u := ()) hx hb hr hlocks hP hD hS dX5_bringsBy_32 ?_ ?_
    · rfl
    · first | exact mn_x (by assumption) | exact mn_y (by assumption)
set_option maxHeartbeats 4000000 in
set_option maxRecDepth 100000 in
theorem c_X5_shuttle (l : Launch) (D : va_G) (cI cB cO : ClassId) (sz : Nat) (m0 g0 g1 g2 g3 g4 g5 g6 g7 g8 ms N ax : Nat) (fa ho la fs : Int32) (rb rn rf : Int32) (kk vv aa dd ee : Int32)  : CI l yX5_shuttle wsX5_shuttle ({ frames := 2, cells := 0, slots := 0, locals := 45 } : Room) D (tyL cI cB cO) [.ref m0, .int kk, .int vv, .int aa, .int dd, .int ee] [(m0, .inr (5, [.ref g0, .ref g1, .ref g2, .int (nI ms), .ref g3, .ref g4, .int (nI N), .int (nI ax), .ref g5, .ref g6, .int fa, .int ho, .int la, .int fs, .ref g7, .ref g8])), (g3, .inl (cI, 3, .inl (ref3 rb rn rf)))] sz (fun (r : Int32) (_ : Unit) => r = rB (okShut kk vv aa dd ee) (brings kk vv aa dd ee)) (fun (u : Unit) => [(m0, .inr (5, [.ref g0, .ref g1, .ref g2, .int (nI ms), .ref g3, .ref g4, .int (nI N), .int (nI ax), .ref g5, .ref g6, .int fa, .int ho, .int la, .int fs, .ref g7, .ref g8])), (g3, .inl (cI, 3, .inl (ref3 (bR (okShut kk vv aa dd ee) rb) rn rf)))]) 0 0 := by
  refine ct_of (cc := cX5_shuttle) (maxL := 6) (ret := some .int) (own := RX5) (Qc := QI D (fun (r : Int32) (_ : Unit) => r = rB (okShut kk vv aa dd ee) (brings kk vv aa dd ee)) (fun (u : Unit) => [(m0, .inr (5, [.ref g0, .ref g1, .ref g2, .int (nI ms), .ref g3, .ref g4, .int (nI N), .int (nI ax), .ref g5, .ref g6, .int fa, .int ho, .int la, .int fs, .ref g7, .ref g8])), (g3, .inl (cI, 3, .inl (ref3 (bR (okShut kk vv aa dd ee) rb) rn rf)))])) (by decide) rfl rfl (Nat.le_of_ble_eq_true rfl) ?_
  intro pM eM sM mM below meth cM AM ls H locs hx hb hr hts hown hlocks hml hin hK hP hD hS hA hSt hl
  have hl : lv_has ls 6 [(0, .ref m0), (1, .int kk), (2, .int vv), (3, .int aa), (4, .int dd), (5, .int ee)] := hl
  refine lv_iload_n hx hb dX5_shuttle_0 rfl (lv_at hl 1 rfl) ?_
  refine lv_iconst (v := 1) hx hb dX5_shuttle_1 (by decide) ?_
  refine lv_bipush (v := 20) hx hb dX5_shuttle_2 (by decide) ?_
  refine k_i (va_runS (As := [.int kk, .int 1, .int 20]) (rest := []) ⟨hx, hb, hml, hown, hts⟩ (c_X5_in l D cI cB cO H.size kk 1 20 ) (va_cwS 3 hts gX5_shuttle_X5_in rfl rfl rfl (by decide +kernel) ⟨Nat.le_of_ble_eq_true rfl, Nat.le_of_ble_eq_true rfl⟩) (preS_of hK hP hD hS hA hSt [] (by decide) rfl) rfl rfl hl.1 rfl (lv_room (Nat.le_of_ble_eq_true rfl)) dX5_shuttle_4 ⟨Nat.le_of_ble_eq_true rfl, Nat.le_of_ble_eq_true rfl⟩) hP hD hS hA [] [0, 1] [0, 1] [(m0, .inr (5, [.ref g0, .ref g1, .ref g2, .int (nI ms), .ref g3, .ref g4, .int (nI N), .int (nI ax), .ref g5, .ref g6, .int fa, .int ho, .int la, .int fs, .ref g7, .ref g8])), (g3, .inl (cI, 3, .inl (ref3 rb rn rf)))] (fun (u_1 : Unit) => [(m0, .inr (5, [.ref g0, .ref g1, .ref g2, .int (nI ms), .ref g3, .ref g4, .int (nI N), .int (nI ax), .ref g5, .ref g6, .int fa, .int ho, .int la, .int fs, .ref g7, .ref g8])), (g3, .inl (cI, 3, .inl (ref3 rb rn rf)))]) rfl rfl (by decide) (by decide) (by decide) (fun _ => rfl) (fun r_1 u_1 H locs q_1 hP hD hS => ?_)
  obtain rfl : r_1 = bI (inR kk 1 20) := q_1
  refine lv_if_eq (tgt := 40) hx hb dX5_shuttle_7 (by decide) (fun c_2 => ?_) (fun c_2 => ?_)
  · have c_2 := bI_0.mp c_2
    refine lv_aload_n hx hb dX5_shuttle_40 rfl (lv_at hl 0 rfl) ?_
    refine lv_ldc (v := -1000002) hx hb hown (hts (.constant RX5 37 (-1000002)) (List.mem_of_getElem? (i := 1) (by decide +kernel))) dX5_shuttle_41 ?_
    refine k_i (va_runV (As := [.int (-1000002)]) (rest := []) ⟨hx, hb, hml, hown, hts⟩ (c_X5_refuse l D cI cB cO H.size m0 g0 g1 g2 g3 g4 g5 g6 g7 g8 ms N ax fa ho la fs rb rn rf (-1000002) (by decide)) (cwV 1 hts gX5_shuttle_X5_refuse rfl rfl rfl (by decide +kernel) ⟨Nat.le_of_ble_eq_true rfl, Nat.le_of_ble_eq_true rfl⟩) (preV_of hK hP hD hS hA hSt [0, 1] (by decide) rfl 0 (ci := 5) rfl rfl) rfl rfl hl.1 rfl (lv_room (Nat.le_of_ble_eq_true rfl)) dX5_shuttle_43 ⟨Nat.le_of_ble_eq_true rfl, Nat.le_of_ble_eq_true rfl⟩) hP hD hS hA [0, 1] [] [0, 1] [] (fun (u_3 : Unit) => [(m0, .inr (5, [.ref g0, .ref g1, .ref g2, .int (nI ms), .ref g3, .ref g4, .int (nI N), .int (nI ax), .ref g5, .ref g6, .int fa, .int ho, .int la, .int fs, .ref g7, .ref g8])), (g3, .inl (cI, 3, .inl (ref3 (uB (-1000002) rb) (uN (-1000002) rn) (uF (-1000002) rf))))]) rfl rfl (by decide) (by decide) (by decide) (fun _ => rfl) (fun r_3 u_3 H locs q_3 hP hD hS => ?_)
    obtain rfl : r_3 = -1000002 := q_3
    rw [show (ref3 (uB (-1000002) rb) (uN (-1000002) rn) (uF (-1000002) rf)) = (ref3 (bR (okShut kk vv aa dd ee) rb) rn rf) from (by rw [uB_B, uN_B, uF_B, show rb + 1 = bR (okShut kk vv aa dd ee) rb from bR_f (by first | assumption | exact and_f1 (by assumption) | exact and_f2 (by assumption))])] at hP hD
    have hP : va_P D vwCl [(m0, .inr (5, [.ref g0, .ref g1, .ref g2, .int (nI ms), .ref g3, .ref g4, .int (nI N), .int (nI ax), .ref g5, .ref g6, .int fa, .int ho, .int la, .int fs, .ref g7, .ref g8])), (g3, .inl (cI, 3, .inl (ref3 (bR (okShut kk vv aa dd ee) rb) rn rf)))] H := hP
    have hD : va_D AM [(m0, .inr (5, [.ref g0, .ref g1, .ref g2, .int (nI ms), .ref g3, .ref g4, .int (nI N), .int (nI ax), .ref g5, .ref g6, .int fa, .int ho, .int la, .int fs, .ref g7, .ref g8])), (g3, .inl (cI, 3, .inl (ref3 (bR (okShut kk vv aa dd ee) rb) rn rf)))] := hD
    refine e_i (u := ()) hx hb hr hlocks hP hD hS dX5_shuttle_46 ?_ ?_
    · rfl
    · exact rB_f (by first | assumption | exact and_f1 (by assumption) | exact and_f2 (by assumption))
  · have c_2 := bI_n0.mp c_2
    refine lv_iload_n hx hb dX5_shuttle_10 rfl (lv_at hl 2 rfl) ?_
    refine lv_iload_n hx hb dX5_shuttle_11 rfl (lv_at hl 3 rfl) ?_
    refine lv_iload hx hb dX5_shuttle_12 (lv_at hl 4 rfl) ?_
    refine lv_iload hx hb dX5_shuttle_14 (lv_at hl 5 rfl) ?_
    refine k_i (va_runS (As := [.int vv, .int aa, .int dd, .int ee]) (rest := []) ⟨hx, hb, hml, hown, hts⟩ (c_X5_areTimes l D cI cB cO H.size vv aa dd ee ) (va_cwS 4 hts gX5_shuttle_X5_areTimes rfl rfl rfl (by decide +kernel) ⟨Nat.le_of_ble_eq_true rfl, Nat.le_of_ble_eq_true rfl⟩) (preS_of hK hP hD hS hA hSt [] (by decide) rfl) rfl rfl hl.1 rfl (lv_room (Nat.le_of_ble_eq_true rfl)) dX5_shuttle_16 ⟨Nat.le_of_ble_eq_true rfl, Nat.le_of_ble_eq_true rfl⟩) hP hD hS hA [] [0, 1] [0, 1] [(m0, .inr (5, [.ref g0, .ref g1, .ref g2, .int (nI ms), .ref g3, .ref g4, .int (nI N), .int (nI ax), .ref g5, .ref g6, .int fa, .int ho, .int la, .int fs, .ref g7, .ref g8])), (g3, .inl (cI, 3, .inl (ref3 rb rn rf)))] (fun (u_4 : Unit) => [(m0, .inr (5, [.ref g0, .ref g1, .ref g2, .int (nI ms), .ref g3, .ref g4, .int (nI N), .int (nI ax), .ref g5, .ref g6, .int fa, .int ho, .int la, .int fs, .ref g7, .ref g8])), (g3, .inl (cI, 3, .inl (ref3 rb rn rf)))]) rfl rfl (by decide) (by decide) (by decide) (fun _ => rfl) (fun r_4 u_4 H locs q_4 hP hD hS => ?_)
    obtain rfl : r_4 = bI (tripB vv aa dd ee) := q_4
    refine lv_if_eq (tgt := 40) hx hb dX5_shuttle_19 (by decide) (fun c_5 => ?_) (fun c_5 => ?_)
    · have c_5 := bI_0.mp c_5
      refine lv_aload_n hx hb dX5_shuttle_40 rfl (lv_at hl 0 rfl) ?_
      refine lv_ldc (v := -1000002) hx hb hown (hts (.constant RX5 37 (-1000002)) (List.mem_of_getElem? (i := 1) (by decide +kernel))) dX5_shuttle_41 ?_
      refine k_i (va_runV (As := [.int (-1000002)]) (rest := []) ⟨hx, hb, hml, hown, hts⟩ (c_X5_refuse l D cI cB cO H.size m0 g0 g1 g2 g3 g4 g5 g6 g7 g8 ms N ax fa ho la fs rb rn rf (-1000002) (by decide)) (cwV 1 hts gX5_shuttle_X5_refuse rfl rfl rfl (by decide +kernel) ⟨Nat.le_of_ble_eq_true rfl, Nat.le_of_ble_eq_true rfl⟩) (preV_of hK hP hD hS hA hSt [0, 1] (by decide) rfl 0 (ci := 5) rfl rfl) rfl rfl hl.1 rfl (lv_room (Nat.le_of_ble_eq_true rfl)) dX5_shuttle_43 ⟨Nat.le_of_ble_eq_true rfl, Nat.le_of_ble_eq_true rfl⟩) hP hD hS hA [0, 1] [] [0, 1] [] (fun (u_6 : Unit) => [(m0, .inr (5, [.ref g0, .ref g1, .ref g2, .int (nI ms), .ref g3, .ref g4, .int (nI N), .int (nI ax), .ref g5, .ref g6, .int fa, .int ho, .int la, .int fs, .ref g7, .ref g8])), (g3, .inl (cI, 3, .inl (ref3 (uB (-1000002) rb) (uN (-1000002) rn) (uF (-1000002) rf))))]) rfl rfl (by decide) (by decide) (by decide) (fun _ => rfl) (fun r_6 u_6 H locs q_6 hP hD hS => ?_)
      obtain rfl : r_6 = -1000002 := q_6
      rw [show (ref3 (uB (-1000002) rb) (uN (-1000002) rn) (uF (-1000002) rf)) = (ref3 (bR (okShut kk vv aa dd ee) rb) rn rf) from (by rw [uB_B, uN_B, uF_B, show rb + 1 = bR (okShut kk vv aa dd ee) rb from bR_f (by first | assumption | exact and_f1 (by assumption) | exact and_f2 (by assumption))])] at hP hD
      have hP : va_P D vwCl [(m0, .inr (5, [.ref g0, .ref g1, .ref g2, .int (nI ms), .ref g3, .ref g4, .int (nI N), .int (nI ax), .ref g5, .ref g6, .int fa, .int ho, .int la, .int fs, .ref g7, .ref g8])), (g3, .inl (cI, 3, .inl (ref3 (bR (okShut kk vv aa dd ee) rb) rn rf)))] H := hP
      have hD : va_D AM [(m0, .inr (5, [.ref g0, .ref g1, .ref g2, .int (nI ms), .ref g3, .ref g4, .int (nI N), .int (nI ax), .ref g5, .ref g6, .int fa, .int ho, .int la, .int fs, .ref g7, .ref g8])), (g3, .inl (cI, 3, .inl (ref3 (bR (okShut kk vv aa dd ee) rb) rn rf)))] := hD
      refine e_i (u := ()) hx hb hr hlocks hP hD hS dX5_shuttle_46 ?_ ?_
      · rfl
      · exact rB_f (by first | assumption | exact and_f1 (by assumption) | exact and_f2 (by assumption))
    · have c_5 := bI_n0.mp c_5
      have htr := c_5
      refine lv_iload_n hx hb dX5_shuttle_22 rfl (lv_at hl 1 rfl) ?_
      refine lv_iload_n hx hb dX5_shuttle_23 rfl (lv_at hl 2 rfl) ?_
      refine lv_iload_n hx hb dX5_shuttle_24 rfl (lv_at hl 3 rfl) ?_
      refine lv_iload_n hx hb dX5_shuttle_25 rfl (lv_at hl 3 rfl) ?_
      refine lv_iconst (v := 2) hx hb dX5_shuttle_26 (by decide) ?_
      refine lv_iload hx hb dX5_shuttle_27 (lv_at hl 4 rfl) ?_
      refine lv_imul hx hb dX5_shuttle_29 ?_
      refine lv_iadd hx hb dX5_shuttle_30 ?_
      refine lv_iload hx hb dX5_shuttle_31 (lv_at hl 5 rfl) ?_
      refine lv_iadd hx hb dX5_shuttle_33 ?_
      refine k_i (va_runS (As := [.int kk, .int vv, .int aa, .int ((aa + (2 * dd)) + ee)]) (rest := []) ⟨hx, hb, hml, hown, hts⟩ (c_X5_bringsBy l D cI cB cO H.size kk vv aa ((aa + (2 * dd)) + ee) (by exact trip_n (tripB_t htr).2.1 (tripB_t htr).2.2.1 (tripB_t htr).2.2.2) (by exact trip_a (tripB_t htr).2.1)) (va_cwS 4 hts gX5_shuttle_X5_bringsBy rfl rfl rfl (by decide +kernel) ⟨Nat.le_of_ble_eq_true rfl, Nat.le_of_ble_eq_true rfl⟩) (preS_of hK hP hD hS hA hSt [] (by decide) rfl) rfl rfl hl.1 rfl (lv_room (Nat.le_of_ble_eq_true rfl)) dX5_shuttle_34 ⟨Nat.le_of_ble_eq_true rfl, Nat.le_of_ble_eq_true rfl⟩) hP hD hS hA [] [0, 1] [0, 1] [(m0, .inr (5, [.ref g0, .ref g1, .ref g2, .int (nI ms), .ref g3, .ref g4, .int (nI N), .int (nI ax), .ref g5, .ref g6, .int fa, .int ho, .int la, .int fs, .ref g7, .ref g8])), (g3, .inl (cI, 3, .inl (ref3 rb rn rf)))] (fun (u_7 : Unit) => [(m0, .inr (5, [.ref g0, .ref g1, .ref g2, .int (nI ms), .ref g3, .ref g4, .int (nI N), .int (nI ax), .ref g5, .ref g6, .int fa, .int ho, .int la, .int fs, .ref g7, .ref g8])), (g3, .inl (cI, 3, .inl (ref3 rb rn rf)))]) rfl rfl (by decide) (by decide) (by decide) (fun _ => rfl) (fun r_7 u_7 H locs q_7 hP hD hS => ?_)
      obtain rfl : r_7 = mn (60 * kk * vv / ((aa + (2 * dd)) + ee)) (60 * vv / aa) := q_7
      refine e_n (y := brings kk vv aa dd ee) rfl ?_
      refine lv_goto (tgt := 46) hx hb dX5_shuttle_37 (by decide) ?_
      rw [show (ref3 rb rn rf) = (ref3 (bR (okShut kk vv aa dd ee) rb) rn rf) from (congrArg (fun z => ref3 z rn rf) (bR_t (by first | assumption | exact and_t2 (by assumption) (by assumption))))] at hP hD
      have hP : va_P D vwCl [(m0, .inr (5, [.ref g0, .ref g1, .ref g2, .int (nI ms), .ref g3, .ref g4, .int (nI N), .int (nI ax), .ref g5, .ref g6, .int fa, .int ho, .int la, .int fs, .ref g7, .ref g8])), (g3, .inl (cI, 3, .inl (ref3 (bR (okShut kk vv aa dd ee) rb) rn rf)))] H := hP
      have hD : va_D AM [(m0, .inr (5, [.ref g0, .ref g1, .ref g2, .int (nI ms), .ref g3, .ref g4, .int (nI N), .int (nI ax), .ref g5, .ref g6, .int fa, .int ho, .int la, .int fs, .ref g7, .ref g8])), (g3, .inl (cI, 3, .inl (ref3 (bR (okShut kk vv aa dd ee) rb) rn rf)))] := hD
      refine e_i (u := ()) hx hb hr hlocks hP hD hS dX5_shuttle_46 ?_ ?_
      · rfl
      · exact rB_t (by first | assumption | exact and_t2 (by assumption) (by assumption))
set_option maxHeartbeats 4000000 in
set_option maxRecDepth 100000 in
theorem c_X5_tanks (l : Launch) (D : va_G) (cI cB cO : ClassId) (sz : Nat) (m0 g0 g1 g2 g3 g4 g5 g6 g7 g8 ms N ax : Nat) (fa ho la fs : Int32) (rb rn rf : Int32) (w vv aa dd ee : Int32)  : CI l yX5_tanks wsX5_tanks ({ frames := 2, cells := 0, slots := 0, locals := 45 } : Room) D (tyL cI cB cO) [.ref m0, .int w, .int vv, .int aa, .int dd, .int ee] [(m0, .inr (5, [.ref g0, .ref g1, .ref g2, .int (nI ms), .ref g3, .ref g4, .int (nI N), .int (nI ax), .ref g5, .ref g6, .int fa, .int ho, .int la, .int fs, .ref g7, .ref g8])), (g3, .inl (cI, 3, .inl (ref3 rb rn rf)))] sz (fun (r : Int32) (_ : Unit) => r = rB (okTank w vv aa dd ee) (tkI w vv aa dd ee 20 1)) (fun (u : Unit) => [(m0, .inr (5, [.ref g0, .ref g1, .ref g2, .int (nI ms), .ref g3, .ref g4, .int (nI N), .int (nI ax), .ref g5, .ref g6, .int fa, .int ho, .int la, .int fs, .ref g7, .ref g8])), (g3, .inl (cI, 3, .inl (ref3 (bR (okTank w vv aa dd ee) rb) rn rf)))]) 0 0 := by
  refine ct_of (cc := cX5_tanks) (maxL := 7) (ret := some .int) (own := RX5) (Qc := QI D (fun (r : Int32) (_ : Unit) => r = rB (okTank w vv aa dd ee) (tkI w vv aa dd ee 20 1)) (fun (u : Unit) => [(m0, .inr (5, [.ref g0, .ref g1, .ref g2, .int (nI ms), .ref g3, .ref g4, .int (nI N), .int (nI ax), .ref g5, .ref g6, .int fa, .int ho, .int la, .int fs, .ref g7, .ref g8])), (g3, .inl (cI, 3, .inl (ref3 (bR (okTank w vv aa dd ee) rb) rn rf)))])) (by decide) rfl rfl (Nat.le_of_ble_eq_true rfl) ?_
  intro pM eM sM mM below meth cM AM ls H locs hx hb hr hts hown hlocks hml hin hK hP hD hS hA hSt hl
  have hl : lv_has ls 7 [(0, .ref m0), (1, .int w), (2, .int vv), (3, .int aa), (4, .int dd), (5, .int ee)] := hl
  refine lv_iload_n hx hb dX5_tanks_0 rfl (lv_at hl 1 rfl) ?_
  refine lv_iconst (v := 1) hx hb dX5_tanks_1 (by decide) ?_
  refine lv_sipush (v := 9999) hx hb dX5_tanks_2 (by decide) ?_
  refine k_i (va_runS (As := [.int w, .int 1, .int 9999]) (rest := []) ⟨hx, hb, hml, hown, hts⟩ (c_X5_in l D cI cB cO H.size w 1 9999 ) (va_cwS 3 hts gX5_tanks_X5_in rfl rfl rfl (by decide +kernel) ⟨Nat.le_of_ble_eq_true rfl, Nat.le_of_ble_eq_true rfl⟩) (preS_of hK hP hD hS hA hSt [] (by decide) rfl) rfl rfl hl.1 rfl (lv_room (Nat.le_of_ble_eq_true rfl)) dX5_tanks_5 ⟨Nat.le_of_ble_eq_true rfl, Nat.le_of_ble_eq_true rfl⟩) hP hD hS hA [] [0, 1] [0, 1] [(m0, .inr (5, [.ref g0, .ref g1, .ref g2, .int (nI ms), .ref g3, .ref g4, .int (nI N), .int (nI ax), .ref g5, .ref g6, .int fa, .int ho, .int la, .int fs, .ref g7, .ref g8])), (g3, .inl (cI, 3, .inl (ref3 rb rn rf)))] (fun (u_1 : Unit) => [(m0, .inr (5, [.ref g0, .ref g1, .ref g2, .int (nI ms), .ref g3, .ref g4, .int (nI N), .int (nI ax), .ref g5, .ref g6, .int fa, .int ho, .int la, .int fs, .ref g7, .ref g8])), (g3, .inl (cI, 3, .inl (ref3 rb rn rf)))]) rfl rfl (by decide) (by decide) (by decide) (fun _ => rfl) (fun r_1 u_1 H locs q_1 hP hD hS => ?_)
  obtain rfl : r_1 = bI (inR w 1 9999) := q_1
  refine lv_if_eq (tgt := 23) hx hb dX5_tanks_8 (by decide) (fun c_2 => ?_) (fun c_2 => ?_)
  · have c_2 := bI_0.mp c_2
    refine lv_aload_n hx hb dX5_tanks_23 rfl (lv_at hl 0 rfl) ?_
    refine lv_ldc (v := -1000002) hx hb hown (hts (.constant RX5 37 (-1000002)) (List.mem_of_getElem? (i := 1) (by decide +kernel))) dX5_tanks_24 ?_
    refine k_i (va_runV (As := [.int (-1000002)]) (rest := []) ⟨hx, hb, hml, hown, hts⟩ (c_X5_refuse l D cI cB cO H.size m0 g0 g1 g2 g3 g4 g5 g6 g7 g8 ms N ax fa ho la fs rb rn rf (-1000002) (by decide)) (cwV 1 hts gX5_tanks_X5_refuse rfl rfl rfl (by decide +kernel) ⟨Nat.le_of_ble_eq_true rfl, Nat.le_of_ble_eq_true rfl⟩) (preV_of hK hP hD hS hA hSt [0, 1] (by decide) rfl 0 (ci := 5) rfl rfl) rfl rfl hl.1 rfl (lv_room (Nat.le_of_ble_eq_true rfl)) dX5_tanks_26 ⟨Nat.le_of_ble_eq_true rfl, Nat.le_of_ble_eq_true rfl⟩) hP hD hS hA [0, 1] [] [0, 1] [] (fun (u_3 : Unit) => [(m0, .inr (5, [.ref g0, .ref g1, .ref g2, .int (nI ms), .ref g3, .ref g4, .int (nI N), .int (nI ax), .ref g5, .ref g6, .int fa, .int ho, .int la, .int fs, .ref g7, .ref g8])), (g3, .inl (cI, 3, .inl (ref3 (uB (-1000002) rb) (uN (-1000002) rn) (uF (-1000002) rf))))]) rfl rfl (by decide) (by decide) (by decide) (fun _ => rfl) (fun r_3 u_3 H locs q_3 hP hD hS => ?_)
    obtain rfl : r_3 = -1000002 := q_3
    rw [show (ref3 (uB (-1000002) rb) (uN (-1000002) rn) (uF (-1000002) rf)) = (ref3 (bR (okTank w vv aa dd ee) rb) rn rf) from (by rw [uB_B, uN_B, uF_B, show rb + 1 = bR (okTank w vv aa dd ee) rb from bR_f (by first | assumption | exact and_f1 (by assumption) | exact and_f2 (by assumption))])] at hP hD
    have hP : va_P D vwCl [(m0, .inr (5, [.ref g0, .ref g1, .ref g2, .int (nI ms), .ref g3, .ref g4, .int (nI N), .int (nI ax), .ref g5, .ref g6, .int fa, .int ho, .int la, .int fs, .ref g7, .ref g8])), (g3, .inl (cI, 3, .inl (ref3 (bR (okTank w vv aa dd ee) rb) rn rf)))] H := hP
    have hD : va_D AM [(m0, .inr (5, [.ref g0, .ref g1, .ref g2, .int (nI ms), .ref g3, .ref g4, .int (nI N), .int (nI ax), .ref g5, .ref g6, .int fa, .int ho, .int la, .int fs, .ref g7, .ref g8])), (g3, .inl (cI, 3, .inl (ref3 (bR (okTank w vv aa dd ee) rb) rn rf)))] := hD
    refine e_i (u := ()) hx hb hr hlocks hP hD hS dX5_tanks_29 ?_ ?_
    · rfl
    · exact rB_f (by first | assumption | exact and_f1 (by assumption) | exact and_f2 (by assumption))
  · have c_2 := bI_n0.mp c_2
    refine lv_iload_n hx hb dX5_tanks_11 rfl (lv_at hl 2 rfl) ?_
    refine lv_iload_n hx hb dX5_tanks_12 rfl (lv_at hl 3 rfl) ?_
    refine lv_iload hx hb dX5_tanks_13 (lv_at hl 4 rfl) ?_
    refine lv_iload hx hb dX5_tanks_15 (lv_at hl 5 rfl) ?_
    refine k_i (va_runS (As := [.int vv, .int aa, .int dd, .int ee]) (rest := []) ⟨hx, hb, hml, hown, hts⟩ (c_X5_areTimes l D cI cB cO H.size vv aa dd ee ) (va_cwS 4 hts gX5_tanks_X5_areTimes rfl rfl rfl (by decide +kernel) ⟨Nat.le_of_ble_eq_true rfl, Nat.le_of_ble_eq_true rfl⟩) (preS_of hK hP hD hS hA hSt [] (by decide) rfl) rfl rfl hl.1 rfl (lv_room (Nat.le_of_ble_eq_true rfl)) dX5_tanks_17 ⟨Nat.le_of_ble_eq_true rfl, Nat.le_of_ble_eq_true rfl⟩) hP hD hS hA [] [0, 1] [0, 1] [(m0, .inr (5, [.ref g0, .ref g1, .ref g2, .int (nI ms), .ref g3, .ref g4, .int (nI N), .int (nI ax), .ref g5, .ref g6, .int fa, .int ho, .int la, .int fs, .ref g7, .ref g8])), (g3, .inl (cI, 3, .inl (ref3 rb rn rf)))] (fun (u_4 : Unit) => [(m0, .inr (5, [.ref g0, .ref g1, .ref g2, .int (nI ms), .ref g3, .ref g4, .int (nI N), .int (nI ax), .ref g5, .ref g6, .int fa, .int ho, .int la, .int fs, .ref g7, .ref g8])), (g3, .inl (cI, 3, .inl (ref3 rb rn rf)))]) rfl rfl (by decide) (by decide) (by decide) (fun _ => rfl) (fun r_4 u_4 H locs q_4 hP hD hS => ?_)
    obtain rfl : r_4 = bI (tripB vv aa dd ee) := q_4
    refine lv_if_ne (tgt := 30) hx hb dX5_tanks_20 (by decide) (fun c_5 => ?_) (fun c_5 => ?_)
    · have c_5 := bI_n0.mp c_5
      have htr := c_5
      refine lv_iconst (v := 1) hx hb dX5_tanks_30 (by decide) ?_
      refine lv_istore (lv' := [(6, .int 1), (0, .ref m0), (1, .int w), (2, .int vv), (3, .int aa), (4, .int dd), (5, .int ee)]) hx hb dX5_tanks_31 hl (by decide) rfl (fun ls hl => ?_)
      have lp_6 : ∀ (nn : Nat) (k : Nat), (k ≤ 21) → (tkI w vv aa dd ee (21 - k) k = tkI w vv aa dd ee 20 1) → (21 - k) < nn → ∀ (H : Heap) (locs : List Loc), va_P D vwCl [(m0, .inr (5, [.ref g0, .ref g1, .ref g2, .int (nI ms), .ref g3, .ref g4, .int (nI N), .int (nI ax), .ref g5, .ref g6, .int fa, .int ho, .int la, .int fs, .ref g7, .ref g8])), (g3, .inl (cI, 3, .inl (ref3 rb rn rf)))] H → va_D AM [(m0, .inr (5, [.ref g0, .ref g1, .ref g2, .int (nI ms), .ref g3, .ref g4, .int (nI N), .int (nI ax), .ref g5, .ref g6, .int fa, .int ho, .int la, .int fs, .ref g7, .ref g8])), (g3, .inl (cI, 3, .inl (ref3 rb rn rf)))] → va_S AM sM.heap H locs → ∀ (ls : Array Slot), lv_has ls 7 [(0, .ref m0), (1, .int w), (2, .int vv), (3, .int aa), (4, .int dd), (5, .int ee), (6, .int (nI k))] → W pM l eM ({ frames := 2, cells := 0, slots := 0, locals := 45 } : Room) sM mM ([.ref m0, .int w, .int vv, .int aa, .int dd, .int ee] : List Value).toArray below meth cM H locs 0 0 (MQ below (QI D (fun (r : Int32) (_ : Unit) => r = rB (okTank w vv aa dd ee) (tkI w vv aa dd ee 20 1)) (fun (u : Unit) => [(m0, .inr (5, [.ref g0, .ref g1, .ref g2, .int (nI ms), .ref g3, .ref g4, .int (nI N), .int (nI ax), .ref g5, .ref g6, .int fa, .int ho, .int la, .int fs, .ref g7, .ref g8])), (g3, .inl (cI, 3, .inl (ref3 (bR (okTank w vv aa dd ee) rb) rn rf)))]) AM) ([.ref m0, .int w, .int vv, .int aa, .int dd, .int ee] : List Value).toArray sM 0 0 AM) (F0 mM 33 ls []) := by
        intro nn
        induction nn with
        | zero =>
          intro k hk hI hm
          exact absurd hm (Nat.not_lt_zero _)
        | succ nn ih_7 =>
          intro k hk hI hm H locs hP hD hS ls hl
          refine lv_iload hx hb dX5_tanks_33 (lv_at hl 6 rfl) ?_
          refine lv_bipush (v := 20) hx hb dX5_tanks_35 (by decide) ?_
          refine lv_icmp_gt (tgt := 69) hx hb dX5_tanks_37 (by decide) (fun c_8 => ?_) (fun c_8 => ?_)
          · have c_8 : 20 < k := (nI_ltI (a := 20) (b := k) (by decide) (by omega)).mp c_8
            refine lv_ldc (v := -1000001) hx hb hown (hts (.constant RX5 74 (-1000001)) (List.mem_of_getElem? (i := 2) (by decide +kernel))) dX5_tanks_69 ?_
            rw [show (ref3 rb rn rf) = (ref3 (bR (okTank w vv aa dd ee) rb) rn rf) from (congrArg (fun z => ref3 z rn rf) (bR_t (by first | assumption | exact and_t2 (by assumption) (by assumption))))] at hP hD
            have hP : va_P D vwCl [(m0, .inr (5, [.ref g0, .ref g1, .ref g2, .int (nI ms), .ref g3, .ref g4, .int (nI N), .int (nI ax), .ref g5, .ref g6, .int fa, .int ho, .int la, .int fs, .ref g7, .ref g8])), (g3, .inl (cI, 3, .inl (ref3 (bR (okTank w vv aa dd ee) rb) rn rf)))] H := hP
            have hD : va_D AM [(m0, .inr (5, [.ref g0, .ref g1, .ref g2, .int (nI ms), .ref g3, .ref g4, .int (nI N), .int (nI ax), .ref g5, .ref g6, .int fa, .int ho, .int la, .int fs, .ref g7, .ref g8])), (g3, .inl (cI, 3, .inl (ref3 (bR (okTank w vv aa dd ee) rb) rn rf)))] := hD
            refine e_i (u := ()) hx hb hr hlocks hP hD hS dX5_tanks_71 ?_ ?_
            · rfl
            · exact rB_t2 (by first | assumption | exact and_t2 (by assumption) (by assumption)) (by rw [show k = 21 by omega] at hI; exact hI)
          · have c_8 : k ≤ 20 := by have h := mt (nI_ltI (a := 20) (b := k) (by decide) (by omega)).mpr c_8; omega
            refine lv_iload hx hb dX5_tanks_40 (lv_at hl 6 rfl) ?_
            refine lv_iload_n hx hb dX5_tanks_42 rfl (lv_at hl 2 rfl) ?_
            refine lv_iload_n hx hb dX5_tanks_43 rfl (lv_at hl 3 rfl) ?_
            refine lv_iload_n hx hb dX5_tanks_44 rfl (lv_at hl 3 rfl) ?_
            refine lv_iconst (v := 2) hx hb dX5_tanks_45 (by decide) ?_
            refine lv_iload hx hb dX5_tanks_46 (lv_at hl 4 rfl) ?_
            refine lv_imul hx hb dX5_tanks_48 ?_
            refine lv_iadd hx hb dX5_tanks_49 ?_
            refine lv_iload hx hb dX5_tanks_50 (lv_at hl 5 rfl) ?_
            refine lv_iadd hx hb dX5_tanks_52 ?_
            refine k_i (va_runS (As := [.int (nI k), .int vv, .int aa, .int ((aa + (2 * dd)) + ee)]) (rest := []) ⟨hx, hb, hml, hown, hts⟩ (c_X5_bringsBy l D cI cB cO H.size (nI k) vv aa ((aa + (2 * dd)) + ee) (by exact trip_n (tripB_t htr).2.1 (tripB_t htr).2.2.1 (tripB_t htr).2.2.2) (by exact trip_a (tripB_t htr).2.1)) (va_cwS 4 hts gX5_tanks_X5_bringsBy rfl rfl rfl (by decide +kernel) ⟨Nat.le_of_ble_eq_true rfl, Nat.le_of_ble_eq_true rfl⟩) (preS_of hK hP hD hS hA hSt [] (by decide) rfl) rfl rfl hl.1 rfl (lv_room (Nat.le_of_ble_eq_true rfl)) dX5_tanks_53 ⟨Nat.le_of_ble_eq_true rfl, Nat.le_of_ble_eq_true rfl⟩) hP hD hS hA [] [0, 1] [0, 1] [(m0, .inr (5, [.ref g0, .ref g1, .ref g2, .int (nI ms), .ref g3, .ref g4, .int (nI N), .int (nI ax), .ref g5, .ref g6, .int fa, .int ho, .int la, .int fs, .ref g7, .ref g8])), (g3, .inl (cI, 3, .inl (ref3 rb rn rf)))] (fun (u_9 : Unit) => [(m0, .inr (5, [.ref g0, .ref g1, .ref g2, .int (nI ms), .ref g3, .ref g4, .int (nI N), .int (nI ax), .ref g5, .ref g6, .int fa, .int ho, .int la, .int fs, .ref g7, .ref g8])), (g3, .inl (cI, 3, .inl (ref3 rb rn rf)))]) rfl rfl (by decide) (by decide) (by decide) (fun _ => rfl) (fun r_9 u_9 H locs q_9 hP hD hS => ?_)
            obtain rfl : r_9 = mn (60 * (nI k) * vv / ((aa + (2 * dd)) + ee)) (60 * vv / aa) := q_9
            refine e_n (y := brings (nI k) vv aa dd ee) rfl ?_
            refine lv_iload_n hx hb dX5_tanks_56 rfl (lv_at hl 1 rfl) ?_
            refine lv_icmp_lt (tgt := 63) hx hb dX5_tanks_57 (by decide) (fun c_10 => ?_) (fun c_10 => ?_)
            · refine lv_iinc (v := nI (k + 1)) (lv' := [(6, .int (nI (k + 1))), (0, .ref m0), (1, .int w), (2, .int vv), (3, .int aa), (4, .int dd), (5, .int ee)]) hx hb dX5_tanks_63 hl (k := 6) rfl (nI_add k 1) (by decide) rfl (fun ls hl => ?_)
              refine lv_goto (tgt := 33) hx hb dX5_tanks_66 (by decide) ?_
              have hl9 : lv_has ls 7 [(0, .ref m0), (1, .int w), (2, .int vv), (3, .int aa), (4, .int dd), (5, .int ee), (6, .int (nI (k + 1)))] := lv_sub hl [1, 2, 3, 4, 5, 6, 0] rfl
              exact ih_7 (k + 1) (by first | assumption | omega) (by rw [tkI_s (by omega), if_pos (by assumption)] at hI; exact hI) (by omega) H locs hP hD hS ls hl9
            · refine lv_iload hx hb dX5_tanks_60 (lv_at hl 6 rfl) ?_
              rw [show (ref3 rb rn rf) = (ref3 (bR (okTank w vv aa dd ee) rb) rn rf) from (congrArg (fun z => ref3 z rn rf) (bR_t (by first | assumption | exact and_t2 (by assumption) (by assumption))))] at hP hD
              have hP : va_P D vwCl [(m0, .inr (5, [.ref g0, .ref g1, .ref g2, .int (nI ms), .ref g3, .ref g4, .int (nI N), .int (nI ax), .ref g5, .ref g6, .int fa, .int ho, .int la, .int fs, .ref g7, .ref g8])), (g3, .inl (cI, 3, .inl (ref3 (bR (okTank w vv aa dd ee) rb) rn rf)))] H := hP
              have hD : va_D AM [(m0, .inr (5, [.ref g0, .ref g1, .ref g2, .int (nI ms), .ref g3, .ref g4, .int (nI N), .int (nI ax), .ref g5, .ref g6, .int fa, .int ho, .int la, .int fs, .ref g7, .ref g8])), (g3, .inl (cI, 3, .inl (ref3 (bR (okTank w vv aa dd ee) rb) rn rf)))] := hD
              refine e_i (u := ()) hx hb hr hlocks hP hD hS dX5_tanks_62 ?_ ?_
              · rfl
              · exact rB_t2 (by first | assumption | exact and_t2 (by assumption) (by assumption)) (by rw [tkI_s (by omega), if_neg (by assumption)] at hI; exact hI)
      have hl9 : lv_has ls 7 [(0, .ref m0), (1, .int w), (2, .int vv), (3, .int aa), (4, .int dd), (5, .int ee), (6, .int 1)] := lv_sub hl [1, 2, 3, 4, 5, 6, 0] rfl
      rw [show ([(0, .ref m0), (1, .int w), (2, .int vv), (3, .int aa), (4, .int dd), (5, .int ee), (6, .int 1)] : List (Nat × Value)) = [(0, .ref m0), (1, .int w), (2, .int vv), (3, .int aa), (4, .int dd), (5, .int ee), (6, .int (nI 1))] from rfl] at hl9
      exact lp_6 ((21 - 1) + 1) 1 (by first | assumption | omega) (by rfl) (Nat.lt_succ_self _) H locs hP hD hS ls hl9
    · have c_5 := bI_0.mp c_5
      refine lv_aload_n hx hb dX5_tanks_23 rfl (lv_at hl 0 rfl) ?_
      refine lv_ldc (v := -1000002) hx hb hown (hts (.constant RX5 37 (-1000002)) (List.mem_of_getElem? (i := 1) (by decide +kernel))) dX5_tanks_24 ?_
      refine k_i (va_runV (As := [.int (-1000002)]) (rest := []) ⟨hx, hb, hml, hown, hts⟩ (c_X5_refuse l D cI cB cO H.size m0 g0 g1 g2 g3 g4 g5 g6 g7 g8 ms N ax fa ho la fs rb rn rf (-1000002) (by decide)) (cwV 1 hts gX5_tanks_X5_refuse rfl rfl rfl (by decide +kernel) ⟨Nat.le_of_ble_eq_true rfl, Nat.le_of_ble_eq_true rfl⟩) (preV_of hK hP hD hS hA hSt [0, 1] (by decide) rfl 0 (ci := 5) rfl rfl) rfl rfl hl.1 rfl (lv_room (Nat.le_of_ble_eq_true rfl)) dX5_tanks_26 ⟨Nat.le_of_ble_eq_true rfl, Nat.le_of_ble_eq_true rfl⟩) hP hD hS hA [0, 1] [] [0, 1] [] (fun (u_11 : Unit) => [(m0, .inr (5, [.ref g0, .ref g1, .ref g2, .int (nI ms), .ref g3, .ref g4, .int (nI N), .int (nI ax), .ref g5, .ref g6, .int fa, .int ho, .int la, .int fs, .ref g7, .ref g8])), (g3, .inl (cI, 3, .inl (ref3 (uB (-1000002) rb) (uN (-1000002) rn) (uF (-1000002) rf))))]) rfl rfl (by decide) (by decide) (by decide) (fun _ => rfl) (fun r_11 u_11 H locs q_11 hP hD hS => ?_)
      obtain rfl : r_11 = -1000002 := q_11
      rw [show (ref3 (uB (-1000002) rb) (uN (-1000002) rn) (uF (-1000002) rf)) = (ref3 (bR (okTank w vv aa dd ee) rb) rn rf) from (by rw [uB_B, uN_B, uF_B, show rb + 1 = bR (okTank w vv aa dd ee) rb from bR_f (by first | assumption | exact and_f1 (by assumption) | exact and_f2 (by assumption))])] at hP hD
      have hP : va_P D vwCl [(m0, .inr (5, [.ref g0, .ref g1, .ref g2, .int (nI ms), .ref g3, .ref g4, .int (nI N), .int (nI ax), .ref g5, .ref g6, .int fa, .int ho, .int la, .int fs, .ref g7, .ref g8])), (g3, .inl (cI, 3, .inl (ref3 (bR (okTank w vv aa dd ee) rb) rn rf)))] H := hP
      have hD : va_D AM [(m0, .inr (5, [.ref g0, .ref g1, .ref g2, .int (nI ms), .ref g3, .ref g4, .int (nI N), .int (nI ax), .ref g5, .ref g6, .int fa, .int ho, .int la, .int fs, .ref g7, .ref g8])), (g3, .inl (cI, 3, .inl (ref3 (bR (okTank w vv aa dd ee) rb) rn rf)))] := hD
      refine e_i (u := ()) hx hb hr hlocks hP hD hS dX5_tanks_29 ?_ ?_
      · rfl
      · exact rB_f (by first | assumption | exact and_f1 (by assumption) | exact and_f2 (by assumption))
theorem in_X5_type_5 : ∀ w ∈ wsX50, w ∈ wsX5_type := fun _ h => List.mem_cons_of_mem _ (List.mem_append_right _ h)
set_option maxHeartbeats 4000000 in
set_option maxRecDepth 100000 in
theorem c_X5_type (l : Launch) (D : va_G) (cI cB cO : ClassId) (sz : Nat) (m0 g0 g1 g2 g3 g4 g5 g6 g7 g8 ms N ax : Nat) (fa ho la fs : Int32) (T : Nat → Int32) (rb rn rf : Int32) (c : Int32) (hN : N ≤ 120) : CI l yX5_type wsX5_type ({ frames := 1, cells := 0, slots := 0, locals := 22 } : Room) D (tyL cI cB cO) [.ref m0, .int c] [(m0, .inr (5, [.ref g0, .ref g1, .ref g2, .int (nI ms), .ref g3, .ref g4, .int (nI N), .int (nI ax), .ref g5, .ref g6, .int fa, .int ho, .int la, .int fs, .ref g7, .ref g8])), (g3, .inl (cI, 3, .inl (ref3 rb rn rf))), (g4, .inl (cI, 120, .inl T))] sz (fun (r : Int32) (_ : Unit) => r = tyV c N) (fun (u : Unit) => [(m0, .inr (5, [.ref g0, .ref g1, .ref g2, .int (nI ms), .ref g3, .ref g4, .int (nI (tyN c N)), .int (nI ax), .ref g5, .ref g6, .int fa, .int ho, .int la, .int fs, .ref g7, .ref g8])), (g3, .inl (cI, 3, .inl (ref3 (bR (inR c 0 127) rb) rn (tyF c N rf)))), (g4, .inl (cI, 120, .inl (tyT c N T)))]) 0 0 := by
  refine ct_of (cc := cX5_type) (maxL := 2) (ret := some .int) (own := RX5) (Qc := QI D (fun (r : Int32) (_ : Unit) => r = tyV c N) (fun (u : Unit) => [(m0, .inr (5, [.ref g0, .ref g1, .ref g2, .int (nI ms), .ref g3, .ref g4, .int (nI (tyN c N)), .int (nI ax), .ref g5, .ref g6, .int fa, .int ho, .int la, .int fs, .ref g7, .ref g8])), (g3, .inl (cI, 3, .inl (ref3 (bR (inR c 0 127) rb) rn (tyF c N rf)))), (g4, .inl (cI, 120, .inl (tyT c N T)))])) (by decide) rfl rfl (Nat.le_of_ble_eq_true rfl) ?_
  intro pM eM sM mM below meth cM AM ls H locs hx hb hr hts hown hlocks hml hin hK hP hD hS hA hSt hl
  have hl : lv_has ls 2 [(0, .ref m0), (1, .int c)] := hl
  refine lv_iload_n hx hb dX5_type_0 rfl (lv_at hl 1 rfl) ?_
  refine lv_iconst (v := 0) hx hb dX5_type_1 (by decide) ?_
  refine lv_bipush (v := 127) hx hb dX5_type_2 (by decide) ?_
  refine k_i (va_runS (As := [.int c, .int 0, .int 127]) (rest := []) ⟨hx, hb, hml, hown, hts⟩ (c_X5_in l D cI cB cO H.size c 0 127 ) (va_cwS 3 hts gX5_type_X5_in rfl rfl rfl (by decide +kernel) ⟨Nat.le_of_ble_eq_true rfl, Nat.le_of_ble_eq_true rfl⟩) (preS_of hK hP hD hS hA hSt [] (by decide) rfl) rfl rfl hl.1 rfl (lv_room (Nat.le_of_ble_eq_true rfl)) dX5_type_4 ⟨Nat.le_of_ble_eq_true rfl, Nat.le_of_ble_eq_true rfl⟩) hP hD hS hA [] [0, 1, 2] [0, 1, 2] [(m0, .inr (5, [.ref g0, .ref g1, .ref g2, .int (nI ms), .ref g3, .ref g4, .int (nI N), .int (nI ax), .ref g5, .ref g6, .int fa, .int ho, .int la, .int fs, .ref g7, .ref g8])), (g3, .inl (cI, 3, .inl (ref3 rb rn rf))), (g4, .inl (cI, 120, .inl T))] (fun (u_1 : Unit) => [(m0, .inr (5, [.ref g0, .ref g1, .ref g2, .int (nI ms), .ref g3, .ref g4, .int (nI N), .int (nI ax), .ref g5, .ref g6, .int fa, .int ho, .int la, .int fs, .ref g7, .ref g8])), (g3, .inl (cI, 3, .inl (ref3 rb rn rf))), (g4, .inl (cI, 120, .inl T))]) rfl rfl (by decide) (by decide) (by decide) (fun _ => rfl) (fun r_1 u_1 H locs q_1 hP hD hS => ?_)
  obtain rfl : r_1 = bI (inR c 0 127) := q_1
  refine lv_if_ne (tgt := 17) hx hb dX5_type_7 (by decide) (fun c_2 => ?_) (fun c_2 => ?_)
  · have c_2 := bI_n0.mp c_2
    refine lv_aload_n hx hb dX5_type_17 rfl (lv_at hl 0 rfl) ?_
    refine va_get (D := D) (ci := 5) (v := .int (nI N)) (C := RX5) (T := TX5) (N := 16) hx hb hts in_X5_type_5 hown hK hP 0 rfl rfl 6 (by decide) (hts (.fieldLink RX5 165 "HoseSpansModel" "bytes" "I") (List.mem_of_getElem? (i := 2) (by decide +kernel))) (fun _ h9 => h9) rfl dX5_type_18 ?_
    refine lv_bipush (v := 120) hx hb dX5_type_21 (by decide) ?_
    refine lv_icmp_ne (tgt := 33) hx hb dX5_type_23 (by decide) (fun c_3 => ?_) (fun c_3 => ?_)
    · have c_3 : N < 120 := by have h : ¬ N = 120 := fun h => c_3 (by rw [h]; rfl); omega
      refine lv_aload_n hx hb dX5_type_33 rfl (lv_at hl 0 rfl) ?_
      refine va_get (D := D) (ci := 5) (v := .ref g4) (C := RX5) (T := TX5) (N := 16) hx hb hts in_X5_type_5 hown hK hP 0 rfl rfl 5 (by decide) (hts (.fieldLink RX5 22 "HoseSpansModel" "text" "[I") (List.mem_of_getElem? (i := 4) (by decide +kernel))) (fun _ h9 => h9) rfl dX5_type_34 ?_
      refine lv_aload_n hx hb dX5_type_37 rfl (lv_at hl 0 rfl) ?_
      refine va_get (D := D) (ci := 5) (v := .int (nI N)) (C := RX5) (T := TX5) (N := 16) hx hb hts in_X5_type_5 hown hK hP 0 rfl rfl 6 (by decide) (hts (.fieldLink RX5 165 "HoseSpansModel" "bytes" "I") (List.mem_of_getElem? (i := 2) (by decide +kernel))) (fun _ h9 => h9) rfl dX5_type_38 ?_
      refine lv_iload_n hx hb dX5_type_41 rfl (lv_at hl 1 rfl) ?_
      refine va_iast hx hb hK hP hD hS 2 0 rfl rfl (vp_in_nI (by omega) (by decide)) dX5_type_42 (fun H locs hP hD hS => ?_)
      rw [show Int32.toNatClampNeg (nI N) = N from (nI_clamp (by omega))] at hP hD
      have hP : va_P D vwCl [(m0, .inr (5, [.ref g0, .ref g1, .ref g2, .int (nI ms), .ref g3, .ref g4, .int (nI N), .int (nI ax), .ref g5, .ref g6, .int fa, .int ho, .int la, .int fs, .ref g7, .ref g8])), (g3, .inl (cI, 3, .inl (ref3 rb rn rf))), (g4, .inl (cI, 120, .inl (upd T N c)))] H := hP
      have hD : va_D AM [(m0, .inr (5, [.ref g0, .ref g1, .ref g2, .int (nI ms), .ref g3, .ref g4, .int (nI N), .int (nI ax), .ref g5, .ref g6, .int fa, .int ho, .int la, .int fs, .ref g7, .ref g8])), (g3, .inl (cI, 3, .inl (ref3 rb rn rf))), (g4, .inl (cI, 120, .inl (upd T N c)))] := hD
      refine lv_aload_n hx hb dX5_type_43 rfl (lv_at hl 0 rfl) ?_
      refine lv_dup hx hb dX5_type_44 rfl ?_
      refine va_get (D := D) (ci := 5) (v := .int (nI N)) (C := RX5) (T := TX5) (N := 16) hx hb hts in_X5_type_5 hown hK hP 0 rfl rfl 6 (by decide) (hts (.fieldLink RX5 165 "HoseSpansModel" "bytes" "I") (List.mem_of_getElem? (i := 2) (by decide +kernel))) (fun _ h9 => h9) rfl dX5_type_45 ?_
      refine lv_iconst (v := 1) hx hb dX5_type_48 (by decide) ?_
      refine lv_iadd hx hb dX5_type_49 ?_
      refine e_n (y := nI (N + 1)) (nI_add N 1) ?_
      refine va_put (D := D) (ci := 5) (v := .int (nI (N + 1))) (ty := .int) (C := RX5) (T := TX5) (N := 16) hx hb hts in_X5_type_5 tyX5 tyX5_ok nmX5 hown hK hP hD hS 0 rfl rfl 6 (by decide) (hts (.fieldLink RX5 165 "HoseSpansModel" "bytes" "I") (List.mem_of_getElem? (i := 2) (by decide +kernel))) (fun _ h9 => h9) rfl (by decide +kernel) rfl rfl (Nat.le_of_ble_eq_true rfl) dX5_type_50 (fun H locs hP hD hS => ?_)
      have hP : va_P D vwCl [(m0, .inr (5, [.ref g0, .ref g1, .ref g2, .int (nI ms), .ref g3, .ref g4, .int (nI (N + 1)), .int (nI ax), .ref g5, .ref g6, .int fa, .int ho, .int la, .int fs, .ref g7, .ref g8])), (g3, .inl (cI, 3, .inl (ref3 rb rn rf))), (g4, .inl (cI, 120, .inl (upd T N c)))] H := hP
      have hD : va_D AM [(m0, .inr (5, [.ref g0, .ref g1, .ref g2, .int (nI ms), .ref g3, .ref g4, .int (nI (N + 1)), .int (nI ax), .ref g5, .ref g6, .int fa, .int ho, .int la, .int fs, .ref g7, .ref g8])), (g3, .inl (cI, 3, .inl (ref3 rb rn rf))), (g4, .inl (cI, 120, .inl (upd T N c)))] := hD
      refine lv_aload_n hx hb dX5_type_53 rfl (lv_at hl 0 rfl) ?_
      refine va_get (D := D) (ci := 5) (v := .int (nI (N + 1))) (C := RX5) (T := TX5) (N := 16) hx hb hts in_X5_type_5 hown hK hP 0 rfl rfl 6 (by decide) (hts (.fieldLink RX5 165 "HoseSpansModel" "bytes" "I") (List.mem_of_getElem? (i := 2) (by decide +kernel))) (fun _ h9 => h9) rfl dX5_type_54 ?_
      rw [show (ref3 rb rn rf) = (ref3 (bR (inR c 0 127) rb) rn (tyF c N rf)) from (by rw [← bR_t (x := rb) (by assumption), ← tyF_t (x := rf) (by assumption)])] at hP hD
      have hP : va_P D vwCl [(m0, .inr (5, [.ref g0, .ref g1, .ref g2, .int (nI ms), .ref g3, .ref g4, .int (nI (N + 1)), .int (nI ax), .ref g5, .ref g6, .int fa, .int ho, .int la, .int fs, .ref g7, .ref g8])), (g3, .inl (cI, 3, .inl (ref3 (bR (inR c 0 127) rb) rn (tyF c N rf)))), (g4, .inl (cI, 120, .inl (upd T N c)))] H := hP
      have hD : va_D AM [(m0, .inr (5, [.ref g0, .ref g1, .ref g2, .int (nI ms), .ref g3, .ref g4, .int (nI (N + 1)), .int (nI ax), .ref g5, .ref g6, .int fa, .int ho, .int la, .int fs, .ref g7, .ref g8])), (g3, .inl (cI, 3, .inl (ref3 (bR (inR c 0 127) rb) rn (tyF c N rf)))), (g4, .inl (cI, 120, .inl (upd T N c)))] := hD
      rw [show (.int (nI (N + 1)) : Value) = .int (nI (tyN c N)) from congrArg Value.int (congrArg nI (tyN_t (by assumption) (by assumption)))] at hP hD
      have hP : va_P D vwCl [(m0, .inr (5, [.ref g0, .ref g1, .ref g2, .int (nI ms), .ref g3, .ref g4, .int (nI (tyN c N)), .int (nI ax), .ref g5, .ref g6, .int fa, .int ho, .int la, .int fs, .ref g7, .ref g8])), (g3, .inl (cI, 3, .inl (ref3 (bR (inR c 0 127) rb) rn (tyF c N rf)))), (g4, .inl (cI, 120, .inl (upd T N c)))] H := hP
      have hD : va_D AM [(m0, .inr (5, [.ref g0, .ref g1, .ref g2, .int (nI ms), .ref g3, .ref g4, .int (nI (tyN c N)), .int (nI ax), .ref g5, .ref g6, .int fa, .int ho, .int la, .int fs, .ref g7, .ref g8])), (g3, .inl (cI, 3, .inl (ref3 (bR (inR c 0 127) rb) rn (tyF c N rf)))), (g4, .inl (cI, 120, .inl (upd T N c)))] := hD
      rw [show (upd T N c) = (tyT c N T) from (tyT_t (by assumption) (by assumption))] at hP hD
      have hP : va_P D vwCl [(m0, .inr (5, [.ref g0, .ref g1, .ref g2, .int (nI ms), .ref g3, .ref g4, .int (nI (tyN c N)), .int (nI ax), .ref g5, .ref g6, .int fa, .int ho, .int la, .int fs, .ref g7, .ref g8])), (g3, .inl (cI, 3, .inl (ref3 (bR (inR c 0 127) rb) rn (tyF c N rf)))), (g4, .inl (cI, 120, .inl (tyT c N T)))] H := hP
      have hD : va_D AM [(m0, .inr (5, [.ref g0, .ref g1, .ref g2, .int (nI ms), .ref g3, .ref g4, .int (nI (tyN c N)), .int (nI ax), .ref g5, .ref g6, .int fa, .int ho, .int la, .int fs, .ref g7, .ref g8])), (g3, .inl (cI, 3, .inl (ref3 (bR (inR c 0 127) rb) rn (tyF c N rf)))), (g4, .inl (cI, 120, .inl (tyT c N T)))] := hD
      refine e_i (u := ()) hx hb hr hlocks hP hD hS dX5_type_57 ?_ ?_
      · rfl
      · exact tyV_t (by assumption) (by assumption)
    · have c_3 : ¬ N < 120 := by have h := (nI_eq (b := 120) (by omega) (by decide)).mp c_3; omega
      refine lv_aload_n hx hb dX5_type_26 rfl (lv_at hl 0 rfl) ?_
      refine lv_ldc (v := -1000004) hx hb hown (hts (.constant RX5 99 (-1000004)) (List.mem_of_getElem? (i := 3) (by decide +kernel))) dX5_type_27 ?_
      refine k_i (va_runV (As := [.int (-1000004)]) (rest := []) ⟨hx, hb, hml, hown, hts⟩ (c_X5_refuse l D cI cB cO H.size m0 g0 g1 g2 g3 g4 g5 g6 g7 g8 ms N ax fa ho la fs rb rn rf (-1000004) (by decide)) (cwV 1 hts gX5_type_X5_refuse rfl rfl rfl (by decide +kernel) ⟨Nat.le_of_ble_eq_true rfl, Nat.le_of_ble_eq_true rfl⟩) (preV_of hK hP hD hS hA hSt [0, 1] (by decide) rfl 0 (ci := 5) rfl rfl) rfl rfl hl.1 rfl (lv_room (Nat.le_of_ble_eq_true rfl)) dX5_type_29 ⟨Nat.le_of_ble_eq_true rfl, Nat.le_of_ble_eq_true rfl⟩) hP hD hS hA [0, 1] [2] [1, 2, 0] [(g4, .inl (cI, 120, .inl T))] (fun (u_4 : Unit) => [(m0, .inr (5, [.ref g0, .ref g1, .ref g2, .int (nI ms), .ref g3, .ref g4, .int (nI N), .int (nI ax), .ref g5, .ref g6, .int fa, .int ho, .int la, .int fs, .ref g7, .ref g8])), (g3, .inl (cI, 3, .inl (ref3 (uB (-1000004) rb) (uN (-1000004) rn) (uF (-1000004) rf)))), (g4, .inl (cI, 120, .inl T))]) rfl rfl (by decide) (by decide) (by decide) (fun _ => rfl) (fun r_4 u_4 H locs q_4 hP hD hS => ?_)
      obtain rfl : r_4 = -1000004 := q_4
      rw [show (ref3 (uB (-1000004) rb) (uN (-1000004) rn) (uF (-1000004) rf)) = (ref3 (bR (inR c 0 127) rb) rn (tyF c N rf)) from (by rw [uB_F, uN_F, uF_F, ← bR_t (x := rb) (by assumption), ← tyF_f (x := rf) (by assumption) (by assumption)])] at hP hD
      have hP : va_P D vwCl [(m0, .inr (5, [.ref g0, .ref g1, .ref g2, .int (nI ms), .ref g3, .ref g4, .int (nI N), .int (nI ax), .ref g5, .ref g6, .int fa, .int ho, .int la, .int fs, .ref g7, .ref g8])), (g3, .inl (cI, 3, .inl (ref3 (bR (inR c 0 127) rb) rn (tyF c N rf)))), (g4, .inl (cI, 120, .inl T))] H := hP
      have hD : va_D AM [(m0, .inr (5, [.ref g0, .ref g1, .ref g2, .int (nI ms), .ref g3, .ref g4, .int (nI N), .int (nI ax), .ref g5, .ref g6, .int fa, .int ho, .int la, .int fs, .ref g7, .ref g8])), (g3, .inl (cI, 3, .inl (ref3 (bR (inR c 0 127) rb) rn (tyF c N rf)))), (g4, .inl (cI, 120, .inl T))] := hD
      rw [show (.int (nI N) : Value) = .int (nI (tyN c N)) from congrArg Value.int (congrArg nI (tyN_f (by assumption)))] at hP hD
      have hP : va_P D vwCl [(m0, .inr (5, [.ref g0, .ref g1, .ref g2, .int (nI ms), .ref g3, .ref g4, .int (nI (tyN c N)), .int (nI ax), .ref g5, .ref g6, .int fa, .int ho, .int la, .int fs, .ref g7, .ref g8])), (g3, .inl (cI, 3, .inl (ref3 (bR (inR c 0 127) rb) rn (tyF c N rf)))), (g4, .inl (cI, 120, .inl T))] H := hP
      have hD : va_D AM [(m0, .inr (5, [.ref g0, .ref g1, .ref g2, .int (nI ms), .ref g3, .ref g4, .int (nI (tyN c N)), .int (nI ax), .ref g5, .ref g6, .int fa, .int ho, .int la, .int fs, .ref g7, .ref g8])), (g3, .inl (cI, 3, .inl (ref3 (bR (inR c 0 127) rb) rn (tyF c N rf)))), (g4, .inl (cI, 120, .inl T))] := hD
      rw [show T = (tyT c N T) from (tyT_f (by assumption))] at hP hD
      have hP : va_P D vwCl [(m0, .inr (5, [.ref g0, .ref g1, .ref g2, .int (nI ms), .ref g3, .ref g4, .int (nI (tyN c N)), .int (nI ax), .ref g5, .ref g6, .int fa, .int ho, .int la, .int fs, .ref g7, .ref g8])), (g3, .inl (cI, 3, .inl (ref3 (bR (inR c 0 127) rb) rn (tyF c N rf)))), (g4, .inl (cI, 120, .inl (tyT c N T)))] H := hP
      have hD : va_D AM [(m0, .inr (5, [.ref g0, .ref g1, .ref g2, .int (nI ms), .ref g3, .ref g4, .int (nI (tyN c N)), .int (nI ax), .ref g5, .ref g6, .int fa, .int ho, .int la, .int fs, .ref g7, .ref g8])), (g3, .inl (cI, 3, .inl (ref3 (bR (inR c 0 127) rb) rn (tyF c N rf)))), (g4, .inl (cI, 120, .inl (tyT c N T)))] := hD
      refine e_i (u := ()) hx hb hr hlocks hP hD hS dX5_type_32 ?_ ?_
      · rfl
      · exact tyV_f (by assumption) (by assumption)
  · have c_2 := bI_0.mp c_2
    refine lv_aload_n hx hb dX5_type_10 rfl (lv_at hl 0 rfl) ?_
    refine lv_ldc (v := -1000002) hx hb hown (hts (.constant RX5 37 (-1000002)) (List.mem_of_getElem? (i := 1) (by decide +kernel))) dX5_type_11 ?_
    refine k_i (va_runV (As := [.int (-1000002)]) (rest := []) ⟨hx, hb, hml, hown, hts⟩ (c_X5_refuse l D cI cB cO H.size m0 g0 g1 g2 g3 g4 g5 g6 g7 g8 ms N ax fa ho la fs rb rn rf (-1000002) (by decide)) (cwV 1 hts gX5_type_X5_refuse rfl rfl rfl (by decide +kernel) ⟨Nat.le_of_ble_eq_true rfl, Nat.le_of_ble_eq_true rfl⟩) (preV_of hK hP hD hS hA hSt [0, 1] (by decide) rfl 0 (ci := 5) rfl rfl) rfl rfl hl.1 rfl (lv_room (Nat.le_of_ble_eq_true rfl)) dX5_type_13 ⟨Nat.le_of_ble_eq_true rfl, Nat.le_of_ble_eq_true rfl⟩) hP hD hS hA [0, 1] [2] [1, 2, 0] [(g4, .inl (cI, 120, .inl T))] (fun (u_5 : Unit) => [(m0, .inr (5, [.ref g0, .ref g1, .ref g2, .int (nI ms), .ref g3, .ref g4, .int (nI N), .int (nI ax), .ref g5, .ref g6, .int fa, .int ho, .int la, .int fs, .ref g7, .ref g8])), (g3, .inl (cI, 3, .inl (ref3 (uB (-1000002) rb) (uN (-1000002) rn) (uF (-1000002) rf)))), (g4, .inl (cI, 120, .inl T))]) rfl rfl (by decide) (by decide) (by decide) (fun _ => rfl) (fun r_5 u_5 H locs q_5 hP hD hS => ?_)
    obtain rfl : r_5 = -1000002 := q_5
    rw [show (ref3 (uB (-1000002) rb) (uN (-1000002) rn) (uF (-1000002) rf)) = (ref3 (bR (inR c 0 127) rb) rn (tyF c N rf)) from (by rw [uB_B, uN_B, uF_B, show rb + 1 = bR (inR c 0 127) rb from bR_f (by assumption), ← tyF_b (x := rf) (by assumption)])] at hP hD
    have hP : va_P D vwCl [(m0, .inr (5, [.ref g0, .ref g1, .ref g2, .int (nI ms), .ref g3, .ref g4, .int (nI N), .int (nI ax), .ref g5, .ref g6, .int fa, .int ho, .int la, .int fs, .ref g7, .ref g8])), (g3, .inl (cI, 3, .inl (ref3 (bR (inR c 0 127) rb) rn (tyF c N rf)))), (g4, .inl (cI, 120, .inl T))] H := hP
    have hD : va_D AM [(m0, .inr (5, [.ref g0, .ref g1, .ref g2, .int (nI ms), .ref g3, .ref g4, .int (nI N), .int (nI ax), .ref g5, .ref g6, .int fa, .int ho, .int la, .int fs, .ref g7, .ref g8])), (g3, .inl (cI, 3, .inl (ref3 (bR (inR c 0 127) rb) rn (tyF c N rf)))), (g4, .inl (cI, 120, .inl T))] := hD
    rw [show (.int (nI N) : Value) = .int (nI (tyN c N)) from congrArg Value.int (congrArg nI (tyN_b (by assumption)))] at hP hD
    have hP : va_P D vwCl [(m0, .inr (5, [.ref g0, .ref g1, .ref g2, .int (nI ms), .ref g3, .ref g4, .int (nI (tyN c N)), .int (nI ax), .ref g5, .ref g6, .int fa, .int ho, .int la, .int fs, .ref g7, .ref g8])), (g3, .inl (cI, 3, .inl (ref3 (bR (inR c 0 127) rb) rn (tyF c N rf)))), (g4, .inl (cI, 120, .inl T))] H := hP
    have hD : va_D AM [(m0, .inr (5, [.ref g0, .ref g1, .ref g2, .int (nI ms), .ref g3, .ref g4, .int (nI (tyN c N)), .int (nI ax), .ref g5, .ref g6, .int fa, .int ho, .int la, .int fs, .ref g7, .ref g8])), (g3, .inl (cI, 3, .inl (ref3 (bR (inR c 0 127) rb) rn (tyF c N rf)))), (g4, .inl (cI, 120, .inl T))] := hD
    rw [show T = (tyT c N T) from (tyT_b (by assumption))] at hP hD
    have hP : va_P D vwCl [(m0, .inr (5, [.ref g0, .ref g1, .ref g2, .int (nI ms), .ref g3, .ref g4, .int (nI (tyN c N)), .int (nI ax), .ref g5, .ref g6, .int fa, .int ho, .int la, .int fs, .ref g7, .ref g8])), (g3, .inl (cI, 3, .inl (ref3 (bR (inR c 0 127) rb) rn (tyF c N rf)))), (g4, .inl (cI, 120, .inl (tyT c N T)))] H := hP
    have hD : va_D AM [(m0, .inr (5, [.ref g0, .ref g1, .ref g2, .int (nI ms), .ref g3, .ref g4, .int (nI (tyN c N)), .int (nI ax), .ref g5, .ref g6, .int fa, .int ho, .int la, .int fs, .ref g7, .ref g8])), (g3, .inl (cI, 3, .inl (ref3 (bR (inR c 0 127) rb) rn (tyF c N rf)))), (g4, .inl (cI, 120, .inl (tyT c N T)))] := hD
    refine e_i (u := ()) hx hb hr hlocks hP hD hS dX5_type_16 ?_ ?_
    · rfl
    · exact tyV_b (by assumption)
theorem in_X5_clear_5 : ∀ w ∈ wsX50, w ∈ wsX5_clear := fun _ h => List.mem_cons_of_mem _ (List.mem_append_right _ h)
set_option maxHeartbeats 4000000 in
set_option maxRecDepth 100000 in
theorem c_X5_clear (l : Launch) (D : va_G) (cI cB cO : ClassId) (sz : Nat) (m0 g0 g1 g2 g3 g4 g5 g6 g7 g8 ms N ax : Nat) (fa ho la fs : Int32)  : CI l yX5_clear wsX5_clear ({ frames := 0, cells := 0, slots := 0, locals := 0 } : Room) D (tyL cI cB cO) [.ref m0] [(m0, .inr (5, [.ref g0, .ref g1, .ref g2, .int (nI ms), .ref g3, .ref g4, .int (nI N), .int (nI ax), .ref g5, .ref g6, .int fa, .int ho, .int la, .int fs, .ref g7, .ref g8]))] sz (fun (r : Int32) (_ : Unit) => r = nI N) (fun (u : Unit) => [(m0, .inr (5, [.ref g0, .ref g1, .ref g2, .int (nI ms), .ref g3, .ref g4, .int (nI 0), .int (nI ax), .ref g5, .ref g6, .int fa, .int ho, .int la, .int fs, .ref g7, .ref g8]))]) 0 0 := by
  refine ct_of (cc := cX5_clear) (maxL := 2) (ret := some .int) (own := RX5) (Qc := QI D (fun (r : Int32) (_ : Unit) => r = nI N) (fun (u : Unit) => [(m0, .inr (5, [.ref g0, .ref g1, .ref g2, .int (nI ms), .ref g3, .ref g4, .int (nI 0), .int (nI ax), .ref g5, .ref g6, .int fa, .int ho, .int la, .int fs, .ref g7, .ref g8]))])) (by decide) rfl rfl (Nat.le_of_ble_eq_true rfl) ?_
  intro pM eM sM mM below meth cM AM ls H locs hx hb hr hts hown hlocks hml hin hK hP hD hS hA hSt hl
  have hl : lv_has ls 2 [(0, .ref m0)] := hl
  refine lv_aload_n hx hb dX5_clear_0 rfl (lv_at hl 0 rfl) ?_
  refine va_get (D := D) (ci := 5) (v := .int (nI N)) (C := RX5) (T := TX5) (N := 16) hx hb hts in_X5_clear_5 hown hK hP 0 rfl rfl 6 (by decide) (hts (.fieldLink RX5 165 "HoseSpansModel" "bytes" "I") (List.mem_of_getElem? (i := 1) (by decide +kernel))) (fun _ h9 => h9) rfl dX5_clear_1 ?_
  refine lv_istore_n (lv' := [(1, .int (nI N)), (0, .ref m0)]) hx hb dX5_clear_4 rfl hl (by decide) rfl (fun ls hl => ?_)
  refine lv_aload_n hx hb dX5_clear_5 rfl (lv_at hl 1 rfl) ?_
  refine lv_iconst (v := 0) hx hb dX5_clear_6 (by decide) ?_
  refine va_put (D := D) (ci := 5) (v := .int 0) (ty := .int) (C := RX5) (T := TX5) (N := 16) hx hb hts in_X5_clear_5 tyX5 tyX5_ok nmX5 hown hK hP hD hS 0 rfl rfl 6 (by decide) (hts (.fieldLink RX5 165 "HoseSpansModel" "bytes" "I") (List.mem_of_getElem? (i := 1) (by decide +kernel))) (fun _ h9 => h9) rfl (by decide +kernel) rfl rfl (Nat.le_of_ble_eq_true rfl) dX5_clear_7 (fun H locs hP hD hS => ?_)
  have hP : va_P D vwCl [(m0, .inr (5, [.ref g0, .ref g1, .ref g2, .int (nI ms), .ref g3, .ref g4, .int 0, .int (nI ax), .ref g5, .ref g6, .int fa, .int ho, .int la, .int fs, .ref g7, .ref g8]))] H := hP
  have hD : va_D AM [(m0, .inr (5, [.ref g0, .ref g1, .ref g2, .int (nI ms), .ref g3, .ref g4, .int 0, .int (nI ax), .ref g5, .ref g6, .int fa, .int ho, .int la, .int fs, .ref g7, .ref g8]))] := hD
  refine lv_iload_n hx hb dX5_clear_10 rfl (lv_at hl 0 rfl) ?_
  refine e_i (u := ()) hx hb hr hlocks hP hD hS dX5_clear_11 ?_ ?_
  · rfl
  · rfl
theorem in_X5_toldOf_5 : ∀ w ∈ wsX50, w ∈ wsX5_toldOf := fun _ h => List.mem_cons_of_mem _ (List.mem_append_right _ h)
set_option maxHeartbeats 4000000 in
set_option maxRecDepth 100000 in
theorem c_X5_toldOf (l : Launch) (D : va_G) (cI cB cO : ClassId) (sz : Nat) (m0 g0 g1 g2 g3 g4 g5 g6 g7 g8 ms N ax : Nat) (fa ho la fs : Int32) (rb rn rf : Int32) (w : Int32) (hr9 : inR w 0 4 = true) : CI l yX5_toldOf wsX5_toldOf ({ frames := 0, cells := 0, slots := 0, locals := 0 } : Room) D (tyL cI cB cO) [.ref m0, .int w] [(m0, .inr (5, [.ref g0, .ref g1, .ref g2, .int (nI ms), .ref g3, .ref g4, .int (nI N), .int (nI ax), .ref g5, .ref g6, .int fa, .int ho, .int la, .int fs, .ref g7, .ref g8])), (g3, .inl (cI, 3, .inl (ref3 rb rn rf)))] sz (fun (r : Int32) (_ : Unit) => r = toldF rb rn rf N ms w) (fun (u : Unit) => [(m0, .inr (5, [.ref g0, .ref g1, .ref g2, .int (nI ms), .ref g3, .ref g4, .int (nI N), .int (nI ax), .ref g5, .ref g6, .int fa, .int ho, .int la, .int fs, .ref g7, .ref g8])), (g3, .inl (cI, 3, .inl (ref3 rb rn rf)))]) 0 0 := by
  refine ct_of (cc := cX5_toldOf) (maxL := 2) (ret := some .int) (own := RX5) (Qc := QI D (fun (r : Int32) (_ : Unit) => r = toldF rb rn rf N ms w) (fun (u : Unit) => [(m0, .inr (5, [.ref g0, .ref g1, .ref g2, .int (nI ms), .ref g3, .ref g4, .int (nI N), .int (nI ax), .ref g5, .ref g6, .int fa, .int ho, .int la, .int fs, .ref g7, .ref g8])), (g3, .inl (cI, 3, .inl (ref3 rb rn rf)))])) (by decide) rfl rfl (Nat.le_of_ble_eq_true rfl) ?_
  intro pM eM sM mM below meth cM AM ls H locs hx hb hr hts hown hlocks hml hin hK hP hD hS hA hSt hl
  have hl : lv_has ls 2 [(0, .ref m0), (1, .int w)] := hl
  obtain ⟨k, hk, rfl⟩ := inR_nI (n := 4) (by decide) hr9
  refine lv_iload_n hx hb dX5_toldOf_0 rfl (lv_at hl 1 rfl) ?_
  refine lv_iconst (v := 3) hx hb dX5_toldOf_1 (by decide) ?_
  refine lv_icmp_ge (tgt := 14) hx hb dX5_toldOf_2 (by decide) (fun c_1 => ?_) (fun c_1 => ?_)
  · have c_1 := Int32.not_lt.mpr c_1
    have c_1 : ¬ k < 3 := fun h => c_1 ((nI_ltI (a := k) (b := 3) (by omega) (by decide)).mpr h)
    refine lv_iload_n hx hb dX5_toldOf_14 rfl (lv_at hl 1 rfl) ?_
    refine lv_iconst (v := 3) hx hb dX5_toldOf_15 (by decide) ?_
    refine lv_icmp_ne (tgt := 26) hx hb dX5_toldOf_16 (by decide) (fun c_2 => ?_) (fun c_2 => ?_)
    · have c_2 : ¬ k = 3 := fun h => c_2 (by rw [h]; rfl)
      refine lv_aload_n hx hb dX5_toldOf_26 rfl (lv_at hl 0 rfl) ?_
      refine va_get (D := D) (ci := 5) (v := .int (nI ms)) (C := RX5) (T := TX5) (N := 16) hx hb hts in_X5_toldOf_5 hown hK hP 0 rfl rfl 3 (by decide) (hts (.fieldLink RX5 38 "HoseSpansModel" "states" "I") (List.mem_of_getElem? (i := 3) (by decide +kernel))) (fun _ h9 => h9) rfl dX5_toldOf_27 ?_
      refine e_i (u := ()) hx hb hr hlocks hP hD hS dX5_toldOf_30 ?_ ?_
      · rfl
      · first | exact told_3 (by assumption) | exact told_n (by assumption) | exact told_s hk (by assumption) (by assumption)
    · have c_2 : k = 3 := (nI_eq (b := 3) (by omega) (by decide)).mp c_2
      refine lv_aload_n hx hb dX5_toldOf_19 rfl (lv_at hl 0 rfl) ?_
      refine va_get (D := D) (ci := 5) (v := .int (nI N)) (C := RX5) (T := TX5) (N := 16) hx hb hts in_X5_toldOf_5 hown hK hP 0 rfl rfl 6 (by decide) (hts (.fieldLink RX5 165 "HoseSpansModel" "bytes" "I") (List.mem_of_getElem? (i := 2) (by decide +kernel))) (fun _ h9 => h9) rfl dX5_toldOf_20 ?_
      refine lv_goto (tgt := 30) hx hb dX5_toldOf_23 (by decide) ?_
      refine e_i (u := ()) hx hb hr hlocks hP hD hS dX5_toldOf_30 ?_ ?_
      · rfl
      · first | exact told_3 (by assumption) | exact told_n (by assumption) | exact told_s hk (by assumption) (by assumption)
  · have c_1 := Int32.not_le.mp c_1
    have c_1 : k < 3 := (nI_ltI (a := k) (b := 3) (by omega) (by decide)).mp c_1
    refine lv_aload_n hx hb dX5_toldOf_5 rfl (lv_at hl 0 rfl) ?_
    refine va_get (D := D) (ci := 5) (v := .ref g3) (C := RX5) (T := TX5) (N := 16) hx hb hts in_X5_toldOf_5 hown hK hP 0 rfl rfl 4 (by decide) (hts (.fieldLink RX5 19 "HoseSpansModel" "refused" "[I") (List.mem_of_getElem? (i := 1) (by decide +kernel))) (fun _ h9 => h9) rfl dX5_toldOf_6 ?_
    refine lv_iload_n hx hb dX5_toldOf_9 rfl (lv_at hl 1 rfl) ?_
    refine va_iald hx hb hK hP 1 0 rfl rfl (vp_in_nI (by omega) (by decide)) dX5_toldOf_10 ?_
    refine e_n (y := (ref3 rb rn rf) k) (congrArg (ref3 rb rn rf) (nI_clamp (by omega))) ?_
    refine lv_goto (tgt := 30) hx hb dX5_toldOf_11 (by decide) ?_
    refine e_i (u := ()) hx hb hr hlocks hP hD hS dX5_toldOf_30 ?_ ?_
    · rfl
    · first | exact told_3 (by assumption) | exact told_n (by assumption) | exact told_s hk (by assumption) (by assumption)
set_option maxHeartbeats 4000000 in
set_option maxRecDepth 100000 in
theorem c_X5_told (l : Launch) (D : va_G) (cI cB cO : ClassId) (sz : Nat) (m0 g0 g1 g2 g3 g4 g5 g6 g7 g8 ms N ax : Nat) (fa ho la fs : Int32) (rb rn rf : Int32) (w : Int32)  : CI l yX5_told wsX5_told ({ frames := 1, cells := 0, slots := 0, locals := 22 } : Room) D (tyL cI cB cO) [.ref m0, .int w] [(m0, .inr (5, [.ref g0, .ref g1, .ref g2, .int (nI ms), .ref g3, .ref g4, .int (nI N), .int (nI ax), .ref g5, .ref g6, .int fa, .int ho, .int la, .int fs, .ref g7, .ref g8])), (g3, .inl (cI, 3, .inl (ref3 rb rn rf)))] sz (fun (r : Int32) (_ : Unit) => r = rB (inR w 0 4) (toldF rb rn rf N ms w)) (fun (u : Unit) => [(m0, .inr (5, [.ref g0, .ref g1, .ref g2, .int (nI ms), .ref g3, .ref g4, .int (nI N), .int (nI ax), .ref g5, .ref g6, .int fa, .int ho, .int la, .int fs, .ref g7, .ref g8])), (g3, .inl (cI, 3, .inl (ref3 (bR (inR w 0 4) rb) rn rf)))]) 0 0 := by
  refine ct_of (cc := cX5_told) (maxL := 2) (ret := some .int) (own := RX5) (Qc := QI D (fun (r : Int32) (_ : Unit) => r = rB (inR w 0 4) (toldF rb rn rf N ms w)) (fun (u : Unit) => [(m0, .inr (5, [.ref g0, .ref g1, .ref g2, .int (nI ms), .ref g3, .ref g4, .int (nI N), .int (nI ax), .ref g5, .ref g6, .int fa, .int ho, .int la, .int fs, .ref g7, .ref g8])), (g3, .inl (cI, 3, .inl (ref3 (bR (inR w 0 4) rb) rn rf)))])) (by decide) rfl rfl (Nat.le_of_ble_eq_true rfl) ?_
  intro pM eM sM mM below meth cM AM ls H locs hx hb hr hts hown hlocks hml hin hK hP hD hS hA hSt hl
  have hl : lv_has ls 2 [(0, .ref m0), (1, .int w)] := hl
  refine lv_iload_n hx hb dX5_told_0 rfl (lv_at hl 1 rfl) ?_
  refine lv_iconst (v := 0) hx hb dX5_told_1 (by decide) ?_
  refine lv_iconst (v := 4) hx hb dX5_told_2 (by decide) ?_
  refine k_i (va_runS (As := [.int w, .int 0, .int 4]) (rest := []) ⟨hx, hb, hml, hown, hts⟩ (c_X5_in l D cI cB cO H.size w 0 4 ) (va_cwS 3 hts gX5_told_X5_in rfl rfl rfl (by decide +kernel) ⟨Nat.le_of_ble_eq_true rfl, Nat.le_of_ble_eq_true rfl⟩) (preS_of hK hP hD hS hA hSt [] (by decide) rfl) rfl rfl hl.1 rfl (lv_room (Nat.le_of_ble_eq_true rfl)) dX5_told_3 ⟨Nat.le_of_ble_eq_true rfl, Nat.le_of_ble_eq_true rfl⟩) hP hD hS hA [] [0, 1] [0, 1] [(m0, .inr (5, [.ref g0, .ref g1, .ref g2, .int (nI ms), .ref g3, .ref g4, .int (nI N), .int (nI ax), .ref g5, .ref g6, .int fa, .int ho, .int la, .int fs, .ref g7, .ref g8])), (g3, .inl (cI, 3, .inl (ref3 rb rn rf)))] (fun (u_1 : Unit) => [(m0, .inr (5, [.ref g0, .ref g1, .ref g2, .int (nI ms), .ref g3, .ref g4, .int (nI N), .int (nI ax), .ref g5, .ref g6, .int fa, .int ho, .int la, .int fs, .ref g7, .ref g8])), (g3, .inl (cI, 3, .inl (ref3 rb rn rf)))]) rfl rfl (by decide) (by decide) (by decide) (fun _ => rfl) (fun r_1 u_1 H locs q_1 hP hD hS => ?_)
  obtain rfl : r_1 = bI (inR w 0 4) := q_1
  refine lv_if_eq (tgt := 17) hx hb dX5_told_6 (by decide) (fun c_2 => ?_) (fun c_2 => ?_)
  · have c_2 := bI_0.mp c_2
    refine lv_aload_n hx hb dX5_told_17 rfl (lv_at hl 0 rfl) ?_
    refine lv_ldc (v := -1000002) hx hb hown (hts (.constant RX5 37 (-1000002)) (List.mem_of_getElem? (i := 1) (by decide +kernel))) dX5_told_18 ?_
    refine k_i (va_runV (As := [.int (-1000002)]) (rest := []) ⟨hx, hb, hml, hown, hts⟩ (c_X5_refuse l D cI cB cO H.size m0 g0 g1 g2 g3 g4 g5 g6 g7 g8 ms N ax fa ho la fs rb rn rf (-1000002) (by decide)) (cwV 1 hts gX5_told_X5_refuse rfl rfl rfl (by decide +kernel) ⟨Nat.le_of_ble_eq_true rfl, Nat.le_of_ble_eq_true rfl⟩) (preV_of hK hP hD hS hA hSt [0, 1] (by decide) rfl 0 (ci := 5) rfl rfl) rfl rfl hl.1 rfl (lv_room (Nat.le_of_ble_eq_true rfl)) dX5_told_20 ⟨Nat.le_of_ble_eq_true rfl, Nat.le_of_ble_eq_true rfl⟩) hP hD hS hA [0, 1] [] [0, 1] [] (fun (u_3 : Unit) => [(m0, .inr (5, [.ref g0, .ref g1, .ref g2, .int (nI ms), .ref g3, .ref g4, .int (nI N), .int (nI ax), .ref g5, .ref g6, .int fa, .int ho, .int la, .int fs, .ref g7, .ref g8])), (g3, .inl (cI, 3, .inl (ref3 (uB (-1000002) rb) (uN (-1000002) rn) (uF (-1000002) rf))))]) rfl rfl (by decide) (by decide) (by decide) (fun _ => rfl) (fun r_3 u_3 H locs q_3 hP hD hS => ?_)
    obtain rfl : r_3 = -1000002 := q_3
    rw [show (ref3 (uB (-1000002) rb) (uN (-1000002) rn) (uF (-1000002) rf)) = (ref3 (bR (inR w 0 4) rb) rn rf) from (by rw [uB_B, uN_B, uF_B, show rb + 1 = bR (inR w 0 4) rb from bR_f (by first | assumption | exact and_f1 (by assumption) | exact and_f2 (by assumption))])] at hP hD
    have hP : va_P D vwCl [(m0, .inr (5, [.ref g0, .ref g1, .ref g2, .int (nI ms), .ref g3, .ref g4, .int (nI N), .int (nI ax), .ref g5, .ref g6, .int fa, .int ho, .int la, .int fs, .ref g7, .ref g8])), (g3, .inl (cI, 3, .inl (ref3 (bR (inR w 0 4) rb) rn rf)))] H := hP
    have hD : va_D AM [(m0, .inr (5, [.ref g0, .ref g1, .ref g2, .int (nI ms), .ref g3, .ref g4, .int (nI N), .int (nI ax), .ref g5, .ref g6, .int fa, .int ho, .int la, .int fs, .ref g7, .ref g8])), (g3, .inl (cI, 3, .inl (ref3 (bR (inR w 0 4) rb) rn rf)))] := hD
    refine e_i (u := ()) hx hb hr hlocks hP hD hS dX5_told_23 ?_ ?_
    · rfl
    · exact rB_f (by first | assumption | exact and_f1 (by assumption) | exact and_f2 (by assumption))
  · have c_2 := bI_n0.mp c_2
    refine lv_aload_n hx hb dX5_told_9 rfl (lv_at hl 0 rfl) ?_
    refine lv_iload_n hx hb dX5_told_10 rfl (lv_at hl 1 rfl) ?_
    refine k_i (va_runV (As := [.int w]) (rest := []) ⟨hx, hb, hml, hown, hts⟩ (c_X5_toldOf l D cI cB cO H.size m0 g0 g1 g2 g3 g4 g5 g6 g7 g8 ms N ax fa ho la fs rb rn rf w (by first | assumption | omega)) (cwV 1 hts gX5_told_X5_toldOf rfl rfl rfl (by decide +kernel) ⟨Nat.le_of_ble_eq_true rfl, Nat.le_of_ble_eq_true rfl⟩) (preV_of hK hP hD hS hA hSt [0, 1] (by decide) rfl 0 (ci := 5) rfl rfl) rfl rfl hl.1 rfl (lv_room (Nat.le_of_ble_eq_true rfl)) dX5_told_11 ⟨Nat.le_of_ble_eq_true rfl, Nat.le_of_ble_eq_true rfl⟩) hP hD hS hA [0, 1] [] [0, 1] [] (fun (u_4 : Unit) => [(m0, .inr (5, [.ref g0, .ref g1, .ref g2, .int (nI ms), .ref g3, .ref g4, .int (nI N), .int (nI ax), .ref g5, .ref g6, .int fa, .int ho, .int la, .int fs, .ref g7, .ref g8])), (g3, .inl (cI, 3, .inl (ref3 rb rn rf)))]) rfl rfl (by decide) (by decide) (by decide) (fun _ => rfl) (fun r_4 u_4 H locs q_4 hP hD hS => ?_)
    obtain rfl : r_4 = toldF rb rn rf N ms w := q_4
    refine lv_goto (tgt := 23) hx hb dX5_told_14 (by decide) ?_
    rw [show (ref3 rb rn rf) = (ref3 (bR (inR w 0 4) rb) rn rf) from (congrArg (fun z => ref3 z rn rf) (bR_t (by first | assumption | exact and_t2 (by assumption) (by assumption))))] at hP hD
    have hP : va_P D vwCl [(m0, .inr (5, [.ref g0, .ref g1, .ref g2, .int (nI ms), .ref g3, .ref g4, .int (nI N), .int (nI ax), .ref g5, .ref g6, .int fa, .int ho, .int la, .int fs, .ref g7, .ref g8])), (g3, .inl (cI, 3, .inl (ref3 (bR (inR w 0 4) rb) rn rf)))] H := hP
    have hD : va_D AM [(m0, .inr (5, [.ref g0, .ref g1, .ref g2, .int (nI ms), .ref g3, .ref g4, .int (nI N), .int (nI ax), .ref g5, .ref g6, .int fa, .int ho, .int la, .int fs, .ref g7, .ref g8])), (g3, .inl (cI, 3, .inl (ref3 (bR (inR w 0 4) rb) rn rf)))] := hD
    refine e_i (u := ()) hx hb hr hlocks hP hD hS dX5_told_23 ?_ ?_
    · rfl
    · exact rB_t (by first | assumption | exact and_t2 (by assumption) (by assumption))
