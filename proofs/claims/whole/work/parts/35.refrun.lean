theorem in_X5_refuse_5 : ∀ w ∈ wsX50, w ∈ wsX5_refuse := fun _ h => List.mem_cons_of_mem _ (List.mem_append_right _ h)
set_option maxHeartbeats 4000000 in
set_option maxRecDepth 100000 in
theorem c_X5_refuse (l : Launch) (D : va_G) (cI cB cO : ClassId) (sz : Nat) (m0 g0 g1 g2 g3 g4 g5 g6 g7 g8 ms N ax : Nat) (fa ho la fs : Int32) (rb rn rf v : Int32) (hv : isRef v = true) : CI l yX5_refuse wsX5_refuse ({ frames := 0, cells := 0, slots := 0, locals := 0 } : Room) D (tyL cI cB cO) [.ref m0, .int v] [(m0, .inr (5, [.ref g0, .ref g1, .ref g2, .int (nI ms), .ref g3, .ref g4, .int (nI N), .int (nI ax), .ref g5, .ref g6, .int fa, .int ho, .int la, .int fs, .ref g7, .ref g8])), (g3, .inl (cI, 3, .inl (ref3 rb rn rf)))] sz (fun (r : Int32) (_ : Unit) => r = v) (fun (u : Unit) => [(m0, .inr (5, [.ref g0, .ref g1, .ref g2, .int (nI ms), .ref g3, .ref g4, .int (nI N), .int (nI ax), .ref g5, .ref g6, .int fa, .int ho, .int la, .int fs, .ref g7, .ref g8])), (g3, .inl (cI, 3, .inl (ref3 (uB v rb) (uN v rn) (uF v rf))))]) 0 0 := by
  refine ct_of (cc := cX5_refuse) (maxL := 2) (ret := some .int) (own := RX5) (Qc := QI D (fun (r : Int32) (_ : Unit) => r = v) (fun (u : Unit) => [(m0, .inr (5, [.ref g0, .ref g1, .ref g2, .int (nI ms), .ref g3, .ref g4, .int (nI N), .int (nI ax), .ref g5, .ref g6, .int fa, .int ho, .int la, .int fs, .ref g7, .ref g8])), (g3, .inl (cI, 3, .inl (ref3 (uB v rb) (uN v rn) (uF v rf))))])) (by decide) rfl rfl (Nat.le_of_ble_eq_true rfl) ?_
  intro pM eM sM mM below meth cM AM ls H locs hx hb hr hts hown hlocks hml hin hK hP hD hS hA hSt hl
  have hl : lv_has ls 2 [(0, .ref m0), (1, .int v)] := hl
  rcases isRef_cases hv with rfl | rfl | rfl
  · refine lv_aload_n hx hb dX5_refuse_0 rfl (lv_at hl 0 rfl) ?_
    refine va_get (D := D) (ci := 5) (v := .ref g3) (C := RX5) (T := TX5) (N := 16) hx hb hts in_X5_refuse_5 hown hK hP 0 rfl rfl 4 (by decide) (hts (.fieldLink RX5 19 "HoseSpansModel" "refused" "[I") (List.mem_of_getElem? (i := 1) (by decide +kernel))) (fun _ h9 => h9) rfl dX5_refuse_1 ?_
    refine lv_ldc (v := -1000002) hx hb hown (hts (.constant RX5 37 (-1000002)) (List.mem_of_getElem? (i := 2) (by decide +kernel))) dX5_refuse_4 ?_
    refine lv_iload_n hx hb dX5_refuse_6 rfl (lv_at hl 1 rfl) ?_
    refine lv_isub hx hb dX5_refuse_7 ?_
    refine e_n (y := 0) (by decide) ?_
    refine lv_dup2_11 hx hb dX5_refuse_8 rfl rfl ?_
    refine va_iald hx hb hK hP 1 0 rfl rfl (vp_in_nI (n := 0) (by decide) (by decide)) dX5_refuse_9 ?_
    refine e_n (y := (ref3 rb rn rf) 0) (congrArg (ref3 rb rn rf) (by decide)) ?_
    refine lv_iconst (v := 1) hx hb dX5_refuse_10 (by decide) ?_
    refine lv_iadd hx hb dX5_refuse_11 ?_
    refine va_iast hx hb hK hP hD hS 1 0 rfl rfl (vp_in_nI (n := 0) (by decide) (by decide)) dX5_refuse_12 (fun H locs hP hD hS => ?_)
    rw [show Int32.toNatClampNeg 0 = 0 from (by decide)] at hP hD
    have hP : va_P D vwCl [(m0, .inr (5, [.ref g0, .ref g1, .ref g2, .int (nI ms), .ref g3, .ref g4, .int (nI N), .int (nI ax), .ref g5, .ref g6, .int fa, .int ho, .int la, .int fs, .ref g7, .ref g8])), (g3, .inl (cI, 3, .inl (upd (ref3 rb rn rf) 0 (((ref3 rb rn rf) 0) + 1))))] H := hP
    have hD : va_D AM [(m0, .inr (5, [.ref g0, .ref g1, .ref g2, .int (nI ms), .ref g3, .ref g4, .int (nI N), .int (nI ax), .ref g5, .ref g6, .int fa, .int ho, .int la, .int fs, .ref g7, .ref g8])), (g3, .inl (cI, 3, .inl (upd (ref3 rb rn rf) 0 (((ref3 rb rn rf) 0) + 1))))] := hD
    rw [show (upd (ref3 rb rn rf) 0 (((ref3 rb rn rf) 0) + 1)) = (ref3 (rb + 1) rn rf) from ref3_0] at hP hD
    have hP : va_P D vwCl [(m0, .inr (5, [.ref g0, .ref g1, .ref g2, .int (nI ms), .ref g3, .ref g4, .int (nI N), .int (nI ax), .ref g5, .ref g6, .int fa, .int ho, .int la, .int fs, .ref g7, .ref g8])), (g3, .inl (cI, 3, .inl (ref3 (rb + 1) rn rf)))] H := hP
    have hD : va_D AM [(m0, .inr (5, [.ref g0, .ref g1, .ref g2, .int (nI ms), .ref g3, .ref g4, .int (nI N), .int (nI ax), .ref g5, .ref g6, .int fa, .int ho, .int la, .int fs, .ref g7, .ref g8])), (g3, .inl (cI, 3, .inl (ref3 (rb + 1) rn rf)))] := hD
    rw [show ref3 (rb + 1) rn rf = ref3 (uB (-1000002) rb) (uN (-1000002) rn) (uF (-1000002) rf) from by rw [(uB_B rb), (uN_B rn), (uF_B rf)]] at hP hD
    have hP : va_P D vwCl [(m0, .inr (5, [.ref g0, .ref g1, .ref g2, .int (nI ms), .ref g3, .ref g4, .int (nI N), .int (nI ax), .ref g5, .ref g6, .int fa, .int ho, .int la, .int fs, .ref g7, .ref g8])), (g3, .inl (cI, 3, .inl (ref3 (uB (-1000002) rb) (uN (-1000002) rn) (uF (-1000002) rf))))] H := hP
    have hD : va_D AM [(m0, .inr (5, [.ref g0, .ref g1, .ref g2, .int (nI ms), .ref g3, .ref g4, .int (nI N), .int (nI ax), .ref g5, .ref g6, .int fa, .int ho, .int la, .int fs, .ref g7, .ref g8])), (g3, .inl (cI, 3, .inl (ref3 (uB (-1000002) rb) (uN (-1000002) rn) (uF (-1000002) rf))))] := hD
    refine lv_iload_n hx hb dX5_refuse_13 rfl (lv_at hl 1 rfl) ?_
    refine e_i (u := ()) hx hb hr hlocks hP hD hS dX5_refuse_14 ?_ ?_
    · rfl
    · rfl
  · refine lv_aload_n hx hb dX5_refuse_0 rfl (lv_at hl 0 rfl) ?_
    refine va_get (D := D) (ci := 5) (v := .ref g3) (C := RX5) (T := TX5) (N := 16) hx hb hts in_X5_refuse_5 hown hK hP 0 rfl rfl 4 (by decide) (hts (.fieldLink RX5 19 "HoseSpansModel" "refused" "[I") (List.mem_of_getElem? (i := 1) (by decide +kernel))) (fun _ h9 => h9) rfl dX5_refuse_1 ?_
    refine lv_ldc (v := -1000002) hx hb hown (hts (.constant RX5 37 (-1000002)) (List.mem_of_getElem? (i := 2) (by decide +kernel))) dX5_refuse_4 ?_
    refine lv_iload_n hx hb dX5_refuse_6 rfl (lv_at hl 1 rfl) ?_
    refine lv_isub hx hb dX5_refuse_7 ?_
    refine e_n (y := 1) (by decide) ?_
    refine lv_dup2_11 hx hb dX5_refuse_8 rfl rfl ?_
    refine va_iald hx hb hK hP 1 0 rfl rfl (vp_in_nI (n := 1) (by decide) (by decide)) dX5_refuse_9 ?_
    refine e_n (y := (ref3 rb rn rf) 1) (congrArg (ref3 rb rn rf) (by decide)) ?_
    refine lv_iconst (v := 1) hx hb dX5_refuse_10 (by decide) ?_
    refine lv_iadd hx hb dX5_refuse_11 ?_
    refine va_iast hx hb hK hP hD hS 1 0 rfl rfl (vp_in_nI (n := 1) (by decide) (by decide)) dX5_refuse_12 (fun H locs hP hD hS => ?_)
    rw [show Int32.toNatClampNeg 1 = 1 from (by decide)] at hP hD
    have hP : va_P D vwCl [(m0, .inr (5, [.ref g0, .ref g1, .ref g2, .int (nI ms), .ref g3, .ref g4, .int (nI N), .int (nI ax), .ref g5, .ref g6, .int fa, .int ho, .int la, .int fs, .ref g7, .ref g8])), (g3, .inl (cI, 3, .inl (upd (ref3 rb rn rf) 1 (((ref3 rb rn rf) 1) + 1))))] H := hP
    have hD : va_D AM [(m0, .inr (5, [.ref g0, .ref g1, .ref g2, .int (nI ms), .ref g3, .ref g4, .int (nI N), .int (nI ax), .ref g5, .ref g6, .int fa, .int ho, .int la, .int fs, .ref g7, .ref g8])), (g3, .inl (cI, 3, .inl (upd (ref3 rb rn rf) 1 (((ref3 rb rn rf) 1) + 1))))] := hD
    rw [show (upd (ref3 rb rn rf) 1 (((ref3 rb rn rf) 1) + 1)) = (ref3 rb (rn + 1) rf) from ref3_1] at hP hD
    have hP : va_P D vwCl [(m0, .inr (5, [.ref g0, .ref g1, .ref g2, .int (nI ms), .ref g3, .ref g4, .int (nI N), .int (nI ax), .ref g5, .ref g6, .int fa, .int ho, .int la, .int fs, .ref g7, .ref g8])), (g3, .inl (cI, 3, .inl (ref3 rb (rn + 1) rf)))] H := hP
    have hD : va_D AM [(m0, .inr (5, [.ref g0, .ref g1, .ref g2, .int (nI ms), .ref g3, .ref g4, .int (nI N), .int (nI ax), .ref g5, .ref g6, .int fa, .int ho, .int la, .int fs, .ref g7, .ref g8])), (g3, .inl (cI, 3, .inl (ref3 rb (rn + 1) rf)))] := hD
    rw [show ref3 rb (rn + 1) rf = ref3 (uB (-1000003) rb) (uN (-1000003) rn) (uF (-1000003) rf) from by rw [(uB_N rb), (uN_N rn), (uF_N rf)]] at hP hD
    have hP : va_P D vwCl [(m0, .inr (5, [.ref g0, .ref g1, .ref g2, .int (nI ms), .ref g3, .ref g4, .int (nI N), .int (nI ax), .ref g5, .ref g6, .int fa, .int ho, .int la, .int fs, .ref g7, .ref g8])), (g3, .inl (cI, 3, .inl (ref3 (uB (-1000003) rb) (uN (-1000003) rn) (uF (-1000003) rf))))] H := hP
    have hD : va_D AM [(m0, .inr (5, [.ref g0, .ref g1, .ref g2, .int (nI ms), .ref g3, .ref g4, .int (nI N), .int (nI ax), .ref g5, .ref g6, .int fa, .int ho, .int la, .int fs, .ref g7, .ref g8])), (g3, .inl (cI, 3, .inl (ref3 (uB (-1000003) rb) (uN (-1000003) rn) (uF (-1000003) rf))))] := hD
    refine lv_iload_n hx hb dX5_refuse_13 rfl (lv_at hl 1 rfl) ?_
    refine e_i (u := ()) hx hb hr hlocks hP hD hS dX5_refuse_14 ?_ ?_
    · rfl
    · rfl
  · refine lv_aload_n hx hb dX5_refuse_0 rfl (lv_at hl 0 rfl) ?_
    refine va_get (D := D) (ci := 5) (v := .ref g3) (C := RX5) (T := TX5) (N := 16) hx hb hts in_X5_refuse_5 hown hK hP 0 rfl rfl 4 (by decide) (hts (.fieldLink RX5 19 "HoseSpansModel" "refused" "[I") (List.mem_of_getElem? (i := 1) (by decide +kernel))) (fun _ h9 => h9) rfl dX5_refuse_1 ?_
    refine lv_ldc (v := -1000002) hx hb hown (hts (.constant RX5 37 (-1000002)) (List.mem_of_getElem? (i := 2) (by decide +kernel))) dX5_refuse_4 ?_
    refine lv_iload_n hx hb dX5_refuse_6 rfl (lv_at hl 1 rfl) ?_
    refine lv_isub hx hb dX5_refuse_7 ?_
    refine e_n (y := 2) (by decide) ?_
    refine lv_dup2_11 hx hb dX5_refuse_8 rfl rfl ?_
    refine va_iald hx hb hK hP 1 0 rfl rfl (vp_in_nI (n := 2) (by decide) (by decide)) dX5_refuse_9 ?_
    refine e_n (y := (ref3 rb rn rf) 2) (congrArg (ref3 rb rn rf) (by decide)) ?_
    refine lv_iconst (v := 1) hx hb dX5_refuse_10 (by decide) ?_
    refine lv_iadd hx hb dX5_refuse_11 ?_
    refine va_iast hx hb hK hP hD hS 1 0 rfl rfl (vp_in_nI (n := 2) (by decide) (by decide)) dX5_refuse_12 (fun H locs hP hD hS => ?_)
    rw [show Int32.toNatClampNeg 2 = 2 from (by decide)] at hP hD
    have hP : va_P D vwCl [(m0, .inr (5, [.ref g0, .ref g1, .ref g2, .int (nI ms), .ref g3, .ref g4, .int (nI N), .int (nI ax), .ref g5, .ref g6, .int fa, .int ho, .int la, .int fs, .ref g7, .ref g8])), (g3, .inl (cI, 3, .inl (upd (ref3 rb rn rf) 2 (((ref3 rb rn rf) 2) + 1))))] H := hP
    have hD : va_D AM [(m0, .inr (5, [.ref g0, .ref g1, .ref g2, .int (nI ms), .ref g3, .ref g4, .int (nI N), .int (nI ax), .ref g5, .ref g6, .int fa, .int ho, .int la, .int fs, .ref g7, .ref g8])), (g3, .inl (cI, 3, .inl (upd (ref3 rb rn rf) 2 (((ref3 rb rn rf) 2) + 1))))] := hD
    obtain ⟨hP, hD⟩ := e_ext 1 (ref3 rb rn (rf + 1)) hP hD rfl (fun j hj => e_ref2 hj)
    have hP : va_P D vwCl [(m0, .inr (5, [.ref g0, .ref g1, .ref g2, .int (nI ms), .ref g3, .ref g4, .int (nI N), .int (nI ax), .ref g5, .ref g6, .int fa, .int ho, .int la, .int fs, .ref g7, .ref g8])), (g3, .inl (cI, 3, .inl (ref3 rb rn (rf + 1))))] H := hP
    have hD : va_D AM [(m0, .inr (5, [.ref g0, .ref g1, .ref g2, .int (nI ms), .ref g3, .ref g4, .int (nI N), .int (nI ax), .ref g5, .ref g6, .int fa, .int ho, .int la, .int fs, .ref g7, .ref g8])), (g3, .inl (cI, 3, .inl (ref3 rb rn (rf + 1))))] := hD
    rw [show ref3 rb rn (rf + 1) = ref3 (uB (-1000004) rb) (uN (-1000004) rn) (uF (-1000004) rf) from by rw [(uB_F rb), (uN_F rn), (uF_F rf)]] at hP hD
    have hP : va_P D vwCl [(m0, .inr (5, [.ref g0, .ref g1, .ref g2, .int (nI ms), .ref g3, .ref g4, .int (nI N), .int (nI ax), .ref g5, .ref g6, .int fa, .int ho, .int la, .int fs, .ref g7, .ref g8])), (g3, .inl (cI, 3, .inl (ref3 (uB (-1000004) rb) (uN (-1000004) rn) (uF (-1000004) rf))))] H := hP
    have hD : va_D AM [(m0, .inr (5, [.ref g0, .ref g1, .ref g2, .int (nI ms), .ref g3, .ref g4, .int (nI N), .int (nI ax), .ref g5, .ref g6, .int fa, .int ho, .int la, .int fs, .ref g7, .ref g8])), (g3, .inl (cI, 3, .inl (ref3 (uB (-1000004) rb) (uN (-1000004) rn) (uF (-1000004) rf))))] := hD
    refine lv_iload_n hx hb dX5_refuse_13 rfl (lv_at hl 1 rfl) ?_
    refine e_i (u := ()) hx hb hr hlocks hP hD hS dX5_refuse_14 ?_ ?_
    · rfl
    · rfl
theorem in_X5_note_5 : ∀ w ∈ wsX50, w ∈ wsX5_note := fun _ h => List.mem_cons_of_mem _ (List.mem_append_right _ h)
set_option maxHeartbeats 4000000 in
set_option maxRecDepth 100000 in
theorem c_X5_note (l : Launch) (D : va_G) (cI cB cO : ClassId) (sz : Nat) (m0 g0 g1 g2 g3 g4 g5 g6 g7 g8 ms N ax : Nat) (fa ho la fs : Int32) (n : Nat) (P : Int32) (F G : Nat → Int32) (pp : Nat → Int32) (K : Nat → Ln) (hms : ms ≤ 5) (hpk : pastOk pp ms K) : CV l yX5_note wsX5_note ({ frames := 1, cells := 0, slots := 0, locals := 24 } : Room) D (tyL cI cB cO) [.ref m0] [(m0, .inr (5, [.ref g0, .ref g1, .ref g2, .int (nI ms), .ref g3, .ref g4, .int (nI N), .int (nI ax), .ref g5, .ref g6, .int fa, .int ho, .int la, .int fs, .ref g7, .ref g8])), (g0, .inl (cI, 58, .inl (rowL (n, P, F, G)))), (g2, .inl (cI, 290, .inl pp))] sz (fun (u : Nat → Int32) => pastOk u (min (ms + 1) 5) (pushK K ms (n, P, F, G))) (fun (u : Nat → Int32) => [(m0, .inr (5, [.ref g0, .ref g1, .ref g2, .int (nI (min (ms + 1) 5)), .ref g3, .ref g4, .int (nI N), .int (nI ax), .ref g5, .ref g6, .int fa, .int ho, .int la, .int fs, .ref g7, .ref g8])), (g0, .inl (cI, 58, .inl (rowL (n, P, F, G)))), (g2, .inl (cI, 290, .inl u))]) 0 0 := by
  refine ct_of (cc := cX5_note) (maxL := 2) (ret := none) (own := RX5) (Qc := QV D (fun (u : Nat → Int32) => pastOk u (min (ms + 1) 5) (pushK K ms (n, P, F, G))) (fun (u : Nat → Int32) => [(m0, .inr (5, [.ref g0, .ref g1, .ref g2, .int (nI (min (ms + 1) 5)), .ref g3, .ref g4, .int (nI N), .int (nI ax), .ref g5, .ref g6, .int fa, .int ho, .int la, .int fs, .ref g7, .ref g8])), (g0, .inl (cI, 58, .inl (rowL (n, P, F, G)))), (g2, .inl (cI, 290, .inl u))])) (by decide) rfl rfl (Nat.le_of_ble_eq_true rfl) ?_
  intro pM eM sM mM below meth cM AM ls H locs hx hb hr hts hown hlocks hml hin hK hP hD hS hA hSt hl
  have hl : lv_has ls 2 [(0, .ref m0)] := hl
  refine lv_aload_n hx hb dX5_note_0 rfl (lv_at hl 0 rfl) ?_
  refine va_get (D := D) (ci := 5) (v := .int (nI ms)) (C := RX5) (T := TX5) (N := 16) hx hb hts in_X5_note_5 hown hK hP 0 rfl rfl 3 (by decide) (hts (.fieldLink RX5 38 "HoseSpansModel" "states" "I") (List.mem_of_getElem? (i := 1) (by decide +kernel))) (fun _ h9 => h9) rfl dX5_note_1 ?_
  refine lv_iconst (v := 5) hx hb dX5_note_4 (by decide) ?_
  refine lv_icmp_ne (tgt := 48) hx hb dX5_note_5 (by decide) (fun c_1 => ?_) (fun c_1 => ?_)
  · have c_1 : ¬ ms = 5 := fun h => c_1 (by rw [h]; rfl)
    refine lv_aload_n hx hb dX5_note_48 rfl (lv_at hl 0 rfl) ?_
    refine va_get (D := D) (ci := 5) (v := .ref g0) (C := RX5) (T := TX5) (N := 16) hx hb hts in_X5_note_5 hown hK hP 0 rfl rfl 0 (by decide) (hts (.fieldLink RX5 7 "HoseSpansModel" "now" "[I") (List.mem_of_getElem? (i := 3) (by decide +kernel))) (fun _ h9 => h9) rfl dX5_note_49 ?_
    refine lv_iconst (v := 0) hx hb dX5_note_52 (by decide) ?_
    refine lv_aload_n hx hb dX5_note_53 rfl (lv_at hl 0 rfl) ?_
    refine va_get (D := D) (ci := 5) (v := .ref g2) (C := RX5) (T := TX5) (N := 16) hx hb hts in_X5_note_5 hown hK hP 0 rfl rfl 2 (by decide) (hts (.fieldLink RX5 16 "HoseSpansModel" "past" "[I") (List.mem_of_getElem? (i := 2) (by decide +kernel))) (fun _ h9 => h9) rfl dX5_note_54 ?_
    refine lv_bipush (v := 58) hx hb dX5_note_57 (by decide) ?_
    refine lv_aload_n hx hb dX5_note_59 rfl (lv_at hl 0 rfl) ?_
    refine va_get (D := D) (ci := 5) (v := .int (nI ms)) (C := RX5) (T := TX5) (N := 16) hx hb hts in_X5_note_5 hown hK hP 0 rfl rfl 3 (by decide) (hts (.fieldLink RX5 38 "HoseSpansModel" "states" "I") (List.mem_of_getElem? (i := 1) (by decide +kernel))) (fun _ h9 => h9) rfl dX5_note_60 ?_
    refine lv_imul hx hb dX5_note_63 ?_
    refine e_n (y := nI (58 * ms)) (pk_mul 58 ms) ?_
    refine k_v (va_runS (As := [.ref g0, .int (nI 0), .ref g2, .int (nI (58 * ms))]) (rest := []) ⟨hx, hb, hml, hown, hts⟩ (c_X5_bring l D cI cB cO H.size g0 g2 58 290 (rowL (n, P, F, G)) pp 0 (58 * ms) (by first | assumption | omega) (by first | assumption | omega) (by first | assumption | omega) (by first | assumption | omega)) (va_cwS 4 hts gX5_note_X5_bring rfl rfl rfl (by decide +kernel) ⟨Nat.le_of_ble_eq_true rfl, Nat.le_of_ble_eq_true rfl⟩) (preS_of hK hP hD hS hA hSt [1, 2] (by decide) rfl) rfl rfl hl.1 rfl (lv_room (Nat.le_of_ble_eq_true rfl)) dX5_note_64 ⟨Nat.le_of_ble_eq_true rfl, Nat.le_of_ble_eq_true rfl⟩) hP hD hS hA [1, 2] [0] [0, 1, 2] [(m0, .inr (5, [.ref g0, .ref g1, .ref g2, .int (nI ms), .ref g3, .ref g4, .int (nI N), .int (nI ax), .ref g5, .ref g6, .int fa, .int ho, .int la, .int fs, .ref g7, .ref g8]))] (fun (u_2 : Unit) => [(m0, .inr (5, [.ref g0, .ref g1, .ref g2, .int (nI ms), .ref g3, .ref g4, .int (nI N), .int (nI ax), .ref g5, .ref g6, .int fa, .int ho, .int la, .int fs, .ref g7, .ref g8])), (g0, .inl (cI, 58, .inl (rowL (n, P, F, G)))), (g2, .inl (cI, 290, .inl (va_cpy (rowL (n, P, F, G)) pp 0 (58 * ms) 58)))]) rfl rfl (by decide) (by decide) (by decide) (fun _ => rfl) (fun u_2 H locs q_2 hP hD hS => ?_)
    refine lv_aload_n hx hb dX5_note_67 rfl (lv_at hl 0 rfl) ?_
    refine lv_dup hx hb dX5_note_68 rfl ?_
    refine va_get (D := D) (ci := 5) (v := .int (nI ms)) (C := RX5) (T := TX5) (N := 16) hx hb hts in_X5_note_5 hown hK hP 0 rfl rfl 3 (by decide) (hts (.fieldLink RX5 38 "HoseSpansModel" "states" "I") (List.mem_of_getElem? (i := 1) (by decide +kernel))) (fun _ h9 => h9) rfl dX5_note_69 ?_
    refine lv_iconst (v := 1) hx hb dX5_note_72 (by decide) ?_
    refine lv_iadd hx hb dX5_note_73 ?_
    refine e_n (y := nI (ms + 1)) (nI_add ms 1) ?_
    refine va_put (D := D) (ci := 5) (v := .int (nI (ms + 1))) (ty := .int) (C := RX5) (T := TX5) (N := 16) hx hb hts in_X5_note_5 tyX5 tyX5_ok nmX5 hown hK hP hD hS 0 rfl rfl 3 (by decide) (hts (.fieldLink RX5 38 "HoseSpansModel" "states" "I") (List.mem_of_getElem? (i := 1) (by decide +kernel))) (fun _ h9 => h9) rfl (by decide +kernel) rfl rfl (Nat.le_of_ble_eq_true rfl) dX5_note_74 (fun H locs hP hD hS => ?_)
    have hP : va_P D vwCl [(m0, .inr (5, [.ref g0, .ref g1, .ref g2, .int (nI (ms + 1)), .ref g3, .ref g4, .int (nI N), .int (nI ax), .ref g5, .ref g6, .int fa, .int ho, .int la, .int fs, .ref g7, .ref g8])), (g0, .inl (cI, 58, .inl (rowL (n, P, F, G)))), (g2, .inl (cI, 290, .inl (va_cpy (rowL (n, P, F, G)) pp 0 (58 * ms) 58)))] H := hP
    have hD : va_D AM [(m0, .inr (5, [.ref g0, .ref g1, .ref g2, .int (nI (ms + 1)), .ref g3, .ref g4, .int (nI N), .int (nI ax), .ref g5, .ref g6, .int fa, .int ho, .int la, .int fs, .ref g7, .ref g8])), (g0, .inl (cI, 58, .inl (rowL (n, P, F, G)))), (g2, .inl (cI, 290, .inl (va_cpy (rowL (n, P, F, G)) pp 0 (58 * ms) 58)))] := hD
    rw [show (.int (nI (ms + 1)) : Value) = .int (nI (min (ms + 1) 5)) from congrArg Value.int (congrArg nI (Nat.min_eq_left (show ms + 1 ≤ 5 by omega)).symm)] at hP hD
    have hP : va_P D vwCl [(m0, .inr (5, [.ref g0, .ref g1, .ref g2, .int (nI (min (ms + 1) 5)), .ref g3, .ref g4, .int (nI N), .int (nI ax), .ref g5, .ref g6, .int fa, .int ho, .int la, .int fs, .ref g7, .ref g8])), (g0, .inl (cI, 58, .inl (rowL (n, P, F, G)))), (g2, .inl (cI, 290, .inl (va_cpy (rowL (n, P, F, G)) pp 0 (58 * ms) 58)))] H := hP
    have hD : va_D AM [(m0, .inr (5, [.ref g0, .ref g1, .ref g2, .int (nI (min (ms + 1) 5)), .ref g3, .ref g4, .int (nI N), .int (nI ax), .ref g5, .ref g6, .int fa, .int ho, .int la, .int fs, .ref g7, .ref g8])), (g0, .inl (cI, 58, .inl (rowL (n, P, F, G)))), (g2, .inl (cI, 290, .inl (va_cpy (rowL (n, P, F, G)) pp 0 (58 * ms) 58)))] := hD
    refine e_v (u := va_cpy (rowL (n, P, F, G)) pp 0 (58 * ms) 58) hx hb hr hlocks hP hD hS dX5_note_77 ?_ ?_
    · rfl
    · first | exact past_push5 hpk | (rw [Nat.min_eq_left (show ms + 1 ≤ 5 by omega)]; exact past_push (by omega) hpk)
  · obtain rfl : 5 = ms := ((nI_eq (b := 5) (by omega) (by decide)).mp c_1).symm
    refine lv_iconst (v := 0) hx hb dX5_note_8 (by decide) ?_
    refine lv_istore_n (lv' := [(1, .int 0), (0, .ref m0)]) hx hb dX5_note_9 rfl hl (by decide) rfl (fun ls hl => ?_)
    have lp_3 : ∀ (nn : Nat) (k : Nat), (k ≤ 232) → (232 - k) < nn → ∀ (H : Heap) (locs : List Loc), va_P D vwCl [(m0, .inr (5, [.ref g0, .ref g1, .ref g2, .int (nI 5), .ref g3, .ref g4, .int (nI N), .int (nI ax), .ref g5, .ref g6, .int fa, .int ho, .int la, .int fs, .ref g7, .ref g8])), (g0, .inl (cI, 58, .inl (rowL (n, P, F, G)))), (g2, .inl (cI, 290, .inl (shf pp k)))] H → va_D AM [(m0, .inr (5, [.ref g0, .ref g1, .ref g2, .int (nI 5), .ref g3, .ref g4, .int (nI N), .int (nI ax), .ref g5, .ref g6, .int fa, .int ho, .int la, .int fs, .ref g7, .ref g8])), (g0, .inl (cI, 58, .inl (rowL (n, P, F, G)))), (g2, .inl (cI, 290, .inl (shf pp k)))] → va_S AM sM.heap H locs → ∀ (ls : Array Slot), lv_has ls 2 [(0, .ref m0), (1, .int (nI k))] → W pM l eM ({ frames := 1, cells := 0, slots := 0, locals := 24 } : Room) sM mM ([.ref m0] : List Value).toArray below meth cM H locs 0 0 (MQ below (QV D (fun (u : Nat → Int32) => pastOk u (min (5 + 1) 5) (pushK K 5 (n, P, F, G))) (fun (u : Nat → Int32) => [(m0, .inr (5, [.ref g0, .ref g1, .ref g2, .int (nI (min (5 + 1) 5)), .ref g3, .ref g4, .int (nI N), .int (nI ax), .ref g5, .ref g6, .int fa, .int ho, .int la, .int fs, .ref g7, .ref g8])), (g0, .inl (cI, 58, .inl (rowL (n, P, F, G)))), (g2, .inl (cI, 290, .inl u))]) AM) ([.ref m0] : List Value).toArray sM 0 0 AM) (F0 mM 10 ls []) := by
      intro nn
      induction nn with
      | zero =>
        intro k hk hm
        exact absurd hm (Nat.not_lt_zero _)
      | succ nn ih_4 =>
        intro k hk hm H locs hP hD hS ls hl
        refine lv_iload_n hx hb dX5_note_10 rfl (lv_at hl 1 rfl) ?_
        refine lv_sipush (v := 232) hx hb dX5_note_11 (by decide) ?_
        refine lv_icmp_ge (tgt := 38) hx hb dX5_note_14 (by decide) (fun c_5 => ?_) (fun c_5 => ?_)
        · have c_5 := Int32.not_lt.mpr c_5
          have c_5 : ¬ k < 232 := fun h => c_5 ((nI_ltI (a := k) (b := 232) (by omega) (by decide)).mpr h)
          obtain rfl : 232 = k := by omega
          refine lv_aload_n hx hb dX5_note_38 rfl (lv_at hl 0 rfl) ?_
          refine lv_dup hx hb dX5_note_39 rfl ?_
          refine va_get (D := D) (ci := 5) (v := .int (nI 5)) (C := RX5) (T := TX5) (N := 16) hx hb hts in_X5_note_5 hown hK hP 0 rfl rfl 3 (by decide) (hts (.fieldLink RX5 38 "HoseSpansModel" "states" "I") (List.mem_of_getElem? (i := 1) (by decide +kernel))) (fun _ h9 => h9) rfl dX5_note_40 ?_
          refine lv_iconst (v := 1) hx hb dX5_note_43 (by decide) ?_
          refine lv_isub hx hb dX5_note_44 ?_
          refine e_n (y := nI 4) (by decide) ?_
          refine va_put (D := D) (ci := 5) (v := .int (nI 4)) (ty := .int) (C := RX5) (T := TX5) (N := 16) hx hb hts in_X5_note_5 tyX5 tyX5_ok nmX5 hown hK hP hD hS 0 rfl rfl 3 (by decide) (hts (.fieldLink RX5 38 "HoseSpansModel" "states" "I") (List.mem_of_getElem? (i := 1) (by decide +kernel))) (fun _ h9 => h9) rfl (by decide +kernel) rfl rfl (Nat.le_of_ble_eq_true rfl) dX5_note_45 (fun H locs hP hD hS => ?_)
          have hP : va_P D vwCl [(m0, .inr (5, [.ref g0, .ref g1, .ref g2, .int (nI 4), .ref g3, .ref g4, .int (nI N), .int (nI ax), .ref g5, .ref g6, .int fa, .int ho, .int la, .int fs, .ref g7, .ref g8])), (g0, .inl (cI, 58, .inl (rowL (n, P, F, G)))), (g2, .inl (cI, 290, .inl (shf pp 232)))] H := hP
          have hD : va_D AM [(m0, .inr (5, [.ref g0, .ref g1, .ref g2, .int (nI 4), .ref g3, .ref g4, .int (nI N), .int (nI ax), .ref g5, .ref g6, .int fa, .int ho, .int la, .int fs, .ref g7, .ref g8])), (g0, .inl (cI, 58, .inl (rowL (n, P, F, G)))), (g2, .inl (cI, 290, .inl (shf pp 232)))] := hD
          refine lv_aload_n hx hb dX5_note_48 rfl (lv_at hl 0 rfl) ?_
          refine va_get (D := D) (ci := 5) (v := .ref g0) (C := RX5) (T := TX5) (N := 16) hx hb hts in_X5_note_5 hown hK hP 0 rfl rfl 0 (by decide) (hts (.fieldLink RX5 7 "HoseSpansModel" "now" "[I") (List.mem_of_getElem? (i := 3) (by decide +kernel))) (fun _ h9 => h9) rfl dX5_note_49 ?_
          refine lv_iconst (v := 0) hx hb dX5_note_52 (by decide) ?_
          refine lv_aload_n hx hb dX5_note_53 rfl (lv_at hl 0 rfl) ?_
          refine va_get (D := D) (ci := 5) (v := .ref g2) (C := RX5) (T := TX5) (N := 16) hx hb hts in_X5_note_5 hown hK hP 0 rfl rfl 2 (by decide) (hts (.fieldLink RX5 16 "HoseSpansModel" "past" "[I") (List.mem_of_getElem? (i := 2) (by decide +kernel))) (fun _ h9 => h9) rfl dX5_note_54 ?_
          refine lv_bipush (v := 58) hx hb dX5_note_57 (by decide) ?_
          refine lv_aload_n hx hb dX5_note_59 rfl (lv_at hl 0 rfl) ?_
          refine va_get (D := D) (ci := 5) (v := .int (nI 4)) (C := RX5) (T := TX5) (N := 16) hx hb hts in_X5_note_5 hown hK hP 0 rfl rfl 3 (by decide) (hts (.fieldLink RX5 38 "HoseSpansModel" "states" "I") (List.mem_of_getElem? (i := 1) (by decide +kernel))) (fun _ h9 => h9) rfl dX5_note_60 ?_
          refine lv_imul hx hb dX5_note_63 ?_
          refine e_n (y := nI (58 * 4)) (pk_mul 58 4) ?_
          refine k_v (va_runS (As := [.ref g0, .int (nI 0), .ref g2, .int (nI (58 * 4))]) (rest := []) ⟨hx, hb, hml, hown, hts⟩ (c_X5_bring l D cI cB cO H.size g0 g2 58 290 (rowL (n, P, F, G)) (shf pp 232) 0 (58 * 4) (by first | assumption | omega) (by first | assumption | omega) (by first | assumption | omega) (by first | assumption | omega)) (va_cwS 4 hts gX5_note_X5_bring rfl rfl rfl (by decide +kernel) ⟨Nat.le_of_ble_eq_true rfl, Nat.le_of_ble_eq_true rfl⟩) (preS_of hK hP hD hS hA hSt [1, 2] (by decide) rfl) rfl rfl hl.1 rfl (lv_room (Nat.le_of_ble_eq_true rfl)) dX5_note_64 ⟨Nat.le_of_ble_eq_true rfl, Nat.le_of_ble_eq_true rfl⟩) hP hD hS hA [1, 2] [0] [0, 1, 2] [(m0, .inr (5, [.ref g0, .ref g1, .ref g2, .int (nI 4), .ref g3, .ref g4, .int (nI N), .int (nI ax), .ref g5, .ref g6, .int fa, .int ho, .int la, .int fs, .ref g7, .ref g8]))] (fun (u_6 : Unit) => [(m0, .inr (5, [.ref g0, .ref g1, .ref g2, .int (nI 4), .ref g3, .ref g4, .int (nI N), .int (nI ax), .ref g5, .ref g6, .int fa, .int ho, .int la, .int fs, .ref g7, .ref g8])), (g0, .inl (cI, 58, .inl (rowL (n, P, F, G)))), (g2, .inl (cI, 290, .inl (va_cpy (rowL (n, P, F, G)) (shf pp 232) 0 (58 * 4) 58)))]) rfl rfl (by decide) (by decide) (by decide) (fun _ => rfl) (fun u_6 H locs q_6 hP hD hS => ?_)
          refine lv_aload_n hx hb dX5_note_67 rfl (lv_at hl 0 rfl) ?_
          refine lv_dup hx hb dX5_note_68 rfl ?_
          refine va_get (D := D) (ci := 5) (v := .int (nI 4)) (C := RX5) (T := TX5) (N := 16) hx hb hts in_X5_note_5 hown hK hP 0 rfl rfl 3 (by decide) (hts (.fieldLink RX5 38 "HoseSpansModel" "states" "I") (List.mem_of_getElem? (i := 1) (by decide +kernel))) (fun _ h9 => h9) rfl dX5_note_69 ?_
          refine lv_iconst (v := 1) hx hb dX5_note_72 (by decide) ?_
          refine lv_iadd hx hb dX5_note_73 ?_
          refine e_n (y := nI (4 + 1)) (nI_add 4 1) ?_
          refine va_put (D := D) (ci := 5) (v := .int (nI (4 + 1))) (ty := .int) (C := RX5) (T := TX5) (N := 16) hx hb hts in_X5_note_5 tyX5 tyX5_ok nmX5 hown hK hP hD hS 0 rfl rfl 3 (by decide) (hts (.fieldLink RX5 38 "HoseSpansModel" "states" "I") (List.mem_of_getElem? (i := 1) (by decide +kernel))) (fun _ h9 => h9) rfl (by decide +kernel) rfl rfl (Nat.le_of_ble_eq_true rfl) dX5_note_74 (fun H locs hP hD hS => ?_)
          have hP : va_P D vwCl [(m0, .inr (5, [.ref g0, .ref g1, .ref g2, .int (nI (4 + 1)), .ref g3, .ref g4, .int (nI N), .int (nI ax), .ref g5, .ref g6, .int fa, .int ho, .int la, .int fs, .ref g7, .ref g8])), (g0, .inl (cI, 58, .inl (rowL (n, P, F, G)))), (g2, .inl (cI, 290, .inl (va_cpy (rowL (n, P, F, G)) (shf pp 232) 0 (58 * 4) 58)))] H := hP
          have hD : va_D AM [(m0, .inr (5, [.ref g0, .ref g1, .ref g2, .int (nI (4 + 1)), .ref g3, .ref g4, .int (nI N), .int (nI ax), .ref g5, .ref g6, .int fa, .int ho, .int la, .int fs, .ref g7, .ref g8])), (g0, .inl (cI, 58, .inl (rowL (n, P, F, G)))), (g2, .inl (cI, 290, .inl (va_cpy (rowL (n, P, F, G)) (shf pp 232) 0 (58 * 4) 58)))] := hD
          refine e_v (u := va_cpy (rowL (n, P, F, G)) (shf pp 232) 0 (58 * 4) 58) hx hb hr hlocks hP hD hS dX5_note_77 ?_ ?_
          · rfl
          · first | exact past_push5 hpk | (rw [Nat.min_eq_left (show ms + 1 ≤ 5 by omega)]; exact past_push (by omega) hpk)
        · have c_5 := Int32.not_le.mp c_5
          have c_5 : k < 232 := (nI_ltI (a := k) (b := 232) (by omega) (by decide)).mp c_5
          refine lv_aload_n hx hb dX5_note_17 rfl (lv_at hl 0 rfl) ?_
          refine va_get (D := D) (ci := 5) (v := .ref g2) (C := RX5) (T := TX5) (N := 16) hx hb hts in_X5_note_5 hown hK hP 0 rfl rfl 2 (by decide) (hts (.fieldLink RX5 16 "HoseSpansModel" "past" "[I") (List.mem_of_getElem? (i := 2) (by decide +kernel))) (fun _ h9 => h9) rfl dX5_note_18 ?_
          refine lv_iload_n hx hb dX5_note_21 rfl (lv_at hl 1 rfl) ?_
          refine lv_aload_n hx hb dX5_note_22 rfl (lv_at hl 0 rfl) ?_
          refine va_get (D := D) (ci := 5) (v := .ref g2) (C := RX5) (T := TX5) (N := 16) hx hb hts in_X5_note_5 hown hK hP 0 rfl rfl 2 (by decide) (hts (.fieldLink RX5 16 "HoseSpansModel" "past" "[I") (List.mem_of_getElem? (i := 2) (by decide +kernel))) (fun _ h9 => h9) rfl dX5_note_23 ?_
          refine lv_iload_n hx hb dX5_note_26 rfl (lv_at hl 1 rfl) ?_
          refine lv_bipush (v := 58) hx hb dX5_note_27 (by decide) ?_
          refine lv_iadd hx hb dX5_note_29 ?_
          refine e_n (y := nI (k + 58)) (nI_add k 58) ?_
          refine va_iald hx hb hK hP 2 0 rfl rfl (vp_in_nI (by omega) (by decide)) dX5_note_30 ?_
          refine e_n (y := (shf pp k) (k + 58)) (congrArg (shf pp k) (nI_clamp (by omega))) ?_
          refine va_iast hx hb hK hP hD hS 2 0 rfl rfl (vp_in_nI (by omega) (by decide)) dX5_note_31 (fun H locs hP hD hS => ?_)
          rw [show Int32.toNatClampNeg (nI k) = k from (nI_clamp (by omega))] at hP hD
          have hP : va_P D vwCl [(m0, .inr (5, [.ref g0, .ref g1, .ref g2, .int (nI 5), .ref g3, .ref g4, .int (nI N), .int (nI ax), .ref g5, .ref g6, .int fa, .int ho, .int la, .int fs, .ref g7, .ref g8])), (g0, .inl (cI, 58, .inl (rowL (n, P, F, G)))), (g2, .inl (cI, 290, .inl (upd (shf pp k) k ((shf pp k) (k + 58)))))] H := hP
          have hD : va_D AM [(m0, .inr (5, [.ref g0, .ref g1, .ref g2, .int (nI 5), .ref g3, .ref g4, .int (nI N), .int (nI ax), .ref g5, .ref g6, .int fa, .int ho, .int la, .int fs, .ref g7, .ref g8])), (g0, .inl (cI, 58, .inl (rowL (n, P, F, G)))), (g2, .inl (cI, 290, .inl (upd (shf pp k) k ((shf pp k) (k + 58)))))] := hD
          refine lv_iinc (v := nI (k + 1)) (lv' := [(1, .int (nI (k + 1))), (0, .ref m0)]) hx hb dX5_note_32 hl (k := 1) rfl (nI_add k 1) (by decide) rfl (fun ls hl => ?_)
          refine lv_goto (tgt := 10) hx hb dX5_note_35 (by decide) ?_
          rw [show upd (shf pp k) k ((shf pp k) (k + 58)) = shf pp (k + 1) from shf_s] at hP hD
          have hl9 : lv_has ls 2 [(0, .ref m0), (1, .int (nI (k + 1)))] := lv_sub hl [1, 0] rfl
          exact ih_4 (k + 1) (by first | assumption | omega) (by omega) H locs hP hD hS ls hl9
    rw [show pp = shf pp 0 from shf_0] at hP hD
    have hl9 : lv_has ls 2 [(0, .ref m0), (1, .int 0)] := lv_sub hl [1, 0] rfl
    rw [show ([(0, .ref m0), (1, .int 0)] : List (Nat × Value)) = [(0, .ref m0), (1, .int (nI 0))] from rfl] at hl9
    exact lp_3 ((232 - 0) + 1) 0 (by first | assumption | omega) (Nat.lt_succ_self _) H locs hP hD hS ls hl9
theorem in_X5_goRun_5 : ∀ w ∈ wsX50, w ∈ wsX5_goRun := fun _ h => List.mem_cons_of_mem _ (List.mem_append_right _ h)
set_option maxHeartbeats 4000000 in
set_option maxRecDepth 100000 in
theorem c_X5_goRun (l : Launch) (D : va_G) (cI cB cO : ClassId) (sz : Nat) (m0 g0 g1 g2 g3 g4 g5 g6 g7 g8 ms N ax : Nat) (fa ho la fs : Int32) (n : Nat) (P : Int32) (F G : Nat → Int32) (a b : Nat → Int32) (q : Int32) (S : Nat) (hn : n ≤ 10) (hf : okFacts F) (hS9 : S < 2048) : CI l yX5_goRun wsX5_goRun ({ frames := 3, cells := 0, slots := 0, locals := 69 } : Room) D (tyL cI cB cO) [.ref m0, .int q, .int (nI S)] [(m0, .inr (5, [.ref g0, .ref g1, .ref g2, .int (nI ms), .ref g3, .ref g4, .int (nI N), .int (nI ax), .ref g5, .ref g6, .int fa, .int ho, .int la, .int fs, .ref g7, .ref g8])), (g0, .inl (cI, 58, .inl (rowL (n, P, F, G)))), (g5, .inl (cI, 11, .inl a)), (g6, .inl (cI, 11, .inl b))] sz (fun (r : Int32) (_ : Unit) => r = bI (metB F G n q S)) (fun (u : Unit) => [(m0, .inr (5, [.ref g0, .ref g1, .ref g2, .int (nI ms), .ref g3, .ref g4, .int (nI N), .int (nI ax), .ref g5, .ref g6, .int ((runF F G n q S).1), .int ((runF F G n q S).2.1), .int ((runF F G n q S).2.2.2 n), .int fs, .ref g7, .ref g8])), (g0, .inl (cI, 58, .inl (rowL (n, P, F, G)))), (g5, .inl (cI, 11, .inl ((runF F G n q S).2.2.1))), (g6, .inl (cI, 11, .inl ((runF F G n q S).2.2.2)))]) 0 0 := by
  refine ct_of (cc := cX5_goRun) (maxL := 5) (ret := some .boolean) (own := RX5) (Qc := QI D (fun (r : Int32) (_ : Unit) => r = bI (metB F G n q S)) (fun (u : Unit) => [(m0, .inr (5, [.ref g0, .ref g1, .ref g2, .int (nI ms), .ref g3, .ref g4, .int (nI N), .int (nI ax), .ref g5, .ref g6, .int ((runF F G n q S).1), .int ((runF F G n q S).2.1), .int ((runF F G n q S).2.2.2 n), .int fs, .ref g7, .ref g8])), (g0, .inl (cI, 58, .inl (rowL (n, P, F, G)))), (g5, .inl (cI, 11, .inl ((runF F G n q S).2.2.1))), (g6, .inl (cI, 11, .inl ((runF F G n q S).2.2.2)))])) (by decide) rfl rfl (Nat.le_of_ble_eq_true rfl) ?_
  intro pM eM sM mM below meth cM AM ls H locs hx hb hr hts hown hlocks hml hin hK hP hD hS hA hSt hl
  have hl : lv_has ls 5 [(0, .ref m0), (1, .int q), (2, .int (nI S))] := hl
  refine lv_iconst (v := 0) hx hb dX5_goRun_0 (by decide) ?_
  refine lv_istore_n (lv' := [(3, .int 0), (0, .ref m0), (1, .int q), (2, .int (nI S))]) hx hb dX5_goRun_1 rfl hl (by decide) rfl (fun ls hl => ?_)
  have lp_1 : ∀ (nn : Nat) (k : Nat), (k ≤ 11) → (11 - k) < nn → ∀ (H : Heap) (locs : List Loc), va_P D vwCl [(m0, .inr (5, [.ref g0, .ref g1, .ref g2, .int (nI ms), .ref g3, .ref g4, .int (nI N), .int (nI ax), .ref g5, .ref g6, .int fa, .int ho, .int la, .int fs, .ref g7, .ref g8])), (g0, .inl (cI, 58, .inl (rowL (n, P, F, G)))), (g5, .inl (cI, 11, .inl (fillF a (-1000001) k))), (g6, .inl (cI, 11, .inl (fillF b (-1000001) k)))] H → va_D AM [(m0, .inr (5, [.ref g0, .ref g1, .ref g2, .int (nI ms), .ref g3, .ref g4, .int (nI N), .int (nI ax), .ref g5, .ref g6, .int fa, .int ho, .int la, .int fs, .ref g7, .ref g8])), (g0, .inl (cI, 58, .inl (rowL (n, P, F, G)))), (g5, .inl (cI, 11, .inl (fillF a (-1000001) k))), (g6, .inl (cI, 11, .inl (fillF b (-1000001) k)))] → va_S AM sM.heap H locs → ∀ (ls : Array Slot), lv_has ls 5 [(0, .ref m0), (1, .int q), (2, .int (nI S)), (3, .int (nI k))] → W pM l eM ({ frames := 3, cells := 0, slots := 0, locals := 69 } : Room) sM mM ([.ref m0, .int q, .int (nI S)] : List Value).toArray below meth cM H locs 0 0 (MQ below (QI D (fun (r : Int32) (_ : Unit) => r = bI (metB F G n q S)) (fun (u : Unit) => [(m0, .inr (5, [.ref g0, .ref g1, .ref g2, .int (nI ms), .ref g3, .ref g4, .int (nI N), .int (nI ax), .ref g5, .ref g6, .int ((runF F G n q S).1), .int ((runF F G n q S).2.1), .int ((runF F G n q S).2.2.2 n), .int fs, .ref g7, .ref g8])), (g0, .inl (cI, 58, .inl (rowL (n, P, F, G)))), (g5, .inl (cI, 11, .inl ((runF F G n q S).2.2.1))), (g6, .inl (cI, 11, .inl ((runF F G n q S).2.2.2)))]) AM) ([.ref m0, .int q, .int (nI S)] : List Value).toArray sM 0 0 AM) (F0 mM 2 ls []) := by
    intro nn
    induction nn with
    | zero =>
      intro k hk hm
      exact absurd hm (Nat.not_lt_zero _)
    | succ nn ih_2 =>
      intro k hk hm H locs hP hD hS ls hl
      refine lv_iload_n hx hb dX5_goRun_2 rfl (lv_at hl 3 rfl) ?_
      refine lv_bipush (v := 10) hx hb dX5_goRun_3 (by decide) ?_
      refine lv_icmp_gt (tgt := 30) hx hb dX5_goRun_5 (by decide) (fun c_3 => ?_) (fun c_3 => ?_)
      · have c_3 : ¬ k ≤ 10 := fun h => by have h2 := (nI_ltI (a := 10) (b := k) (by decide) (by omega)).mp c_3; omega
        obtain rfl : 11 = k := by omega
        obtain ⟨hP, hD⟩ := e_ext 2 (fun _ => -1000001) hP hD rfl (fun j hj => if_pos (show j < 11 by omega))
        obtain ⟨hP, hD⟩ := e_ext 3 (fun _ => -1000001) hP hD rfl (fun j hj => if_pos (show j < 11 by omega))
        have hP : va_P D vwCl [(m0, .inr (5, [.ref g0, .ref g1, .ref g2, .int (nI ms), .ref g3, .ref g4, .int (nI N), .int (nI ax), .ref g5, .ref g6, .int fa, .int ho, .int la, .int fs, .ref g7, .ref g8])), (g0, .inl (cI, 58, .inl (rowL (n, P, F, G)))), (g5, .inl (cI, 11, .inl (fun _ => -1000001))), (g6, .inl (cI, 11, .inl (fun _ => -1000001)))] H := hP
        have hD : va_D AM [(m0, .inr (5, [.ref g0, .ref g1, .ref g2, .int (nI ms), .ref g3, .ref g4, .int (nI N), .int (nI ax), .ref g5, .ref g6, .int fa, .int ho, .int la, .int fs, .ref g7, .ref g8])), (g0, .inl (cI, 58, .inl (rowL (n, P, F, G)))), (g5, .inl (cI, 11, .inl (fun _ => -1000001))), (g6, .inl (cI, 11, .inl (fun _ => -1000001)))] := hD
        refine lv_aload_n hx hb dX5_goRun_30 rfl (lv_at hl 0 rfl) ?_
        refine lv_ldc (v := -1000001) hx hb hown (hts (.constant RX5 74 (-1000001)) (List.mem_of_getElem? (i := 2) (by decide +kernel))) dX5_goRun_31 ?_
        refine va_put (D := D) (ci := 5) (v := .int (-1000001)) (ty := .int) (C := RX5) (T := TX5) (N := 16) hx hb hts in_X5_goRun_5 tyX5 tyX5_ok nmX5 hown hK hP hD hS 0 rfl rfl 10 (by decide) (hts (.fieldLink RX5 58 "HoseSpansModel" "failsAt" "I") (List.mem_of_getElem? (i := 4) (by decide +kernel))) (fun _ h9 => h9) rfl (by decide +kernel) rfl rfl (Nat.le_of_ble_eq_true rfl) dX5_goRun_33 (fun H locs hP hD hS => ?_)
        have hP : va_P D vwCl [(m0, .inr (5, [.ref g0, .ref g1, .ref g2, .int (nI ms), .ref g3, .ref g4, .int (nI N), .int (nI ax), .ref g5, .ref g6, .int (-1000001), .int ho, .int la, .int fs, .ref g7, .ref g8])), (g0, .inl (cI, 58, .inl (rowL (n, P, F, G)))), (g5, .inl (cI, 11, .inl (fun _ => -1000001))), (g6, .inl (cI, 11, .inl (fun _ => -1000001)))] H := hP
        have hD : va_D AM [(m0, .inr (5, [.ref g0, .ref g1, .ref g2, .int (nI ms), .ref g3, .ref g4, .int (nI N), .int (nI ax), .ref g5, .ref g6, .int (-1000001), .int ho, .int la, .int fs, .ref g7, .ref g8])), (g0, .inl (cI, 58, .inl (rowL (n, P, F, G)))), (g5, .inl (cI, 11, .inl (fun _ => -1000001))), (g6, .inl (cI, 11, .inl (fun _ => -1000001)))] := hD
        refine lv_aload_n hx hb dX5_goRun_36 rfl (lv_at hl 0 rfl) ?_
        refine lv_iconst (v := 0) hx hb dX5_goRun_37 (by decide) ?_
        refine va_put (D := D) (ci := 5) (v := .int 0) (ty := .int) (C := RX5) (T := TX5) (N := 16) hx hb hts in_X5_goRun_5 tyX5 tyX5_ok nmX5 hown hK hP hD hS 0 rfl rfl 11 (by decide) (hts (.fieldLink RX5 61 "HoseSpansModel" "how" "I") (List.mem_of_getElem? (i := 5) (by decide +kernel))) (fun _ h9 => h9) rfl (by decide +kernel) rfl rfl (Nat.le_of_ble_eq_true rfl) dX5_goRun_38 (fun H locs hP hD hS => ?_)
        have hP : va_P D vwCl [(m0, .inr (5, [.ref g0, .ref g1, .ref g2, .int (nI ms), .ref g3, .ref g4, .int (nI N), .int (nI ax), .ref g5, .ref g6, .int (-1000001), .int 0, .int la, .int fs, .ref g7, .ref g8])), (g0, .inl (cI, 58, .inl (rowL (n, P, F, G)))), (g5, .inl (cI, 11, .inl (fun _ => -1000001))), (g6, .inl (cI, 11, .inl (fun _ => -1000001)))] H := hP
        have hD : va_D AM [(m0, .inr (5, [.ref g0, .ref g1, .ref g2, .int (nI ms), .ref g3, .ref g4, .int (nI N), .int (nI ax), .ref g5, .ref g6, .int (-1000001), .int 0, .int la, .int fs, .ref g7, .ref g8])), (g0, .inl (cI, 58, .inl (rowL (n, P, F, G)))), (g5, .inl (cI, 11, .inl (fun _ => -1000001))), (g6, .inl (cI, 11, .inl (fun _ => -1000001)))] := hD
        refine lv_aload_n hx hb dX5_goRun_41 rfl (lv_at hl 0 rfl) ?_
        refine lv_ldc (v := -1000001) hx hb hown (hts (.constant RX5 74 (-1000001)) (List.mem_of_getElem? (i := 2) (by decide +kernel))) dX5_goRun_42 ?_
        refine va_put (D := D) (ci := 5) (v := .int (-1000001)) (ty := .int) (C := RX5) (T := TX5) (N := 16) hx hb hts in_X5_goRun_5 tyX5 tyX5_ok nmX5 hown hK hP hD hS 0 rfl rfl 12 (by decide) (hts (.fieldLink RX5 75 "HoseSpansModel" "last" "I") (List.mem_of_getElem? (i := 6) (by decide +kernel))) (fun _ h9 => h9) rfl (by decide +kernel) rfl rfl (Nat.le_of_ble_eq_true rfl) dX5_goRun_44 (fun H locs hP hD hS => ?_)
        have hP : va_P D vwCl [(m0, .inr (5, [.ref g0, .ref g1, .ref g2, .int (nI ms), .ref g3, .ref g4, .int (nI N), .int (nI ax), .ref g5, .ref g6, .int (-1000001), .int 0, .int (-1000001), .int fs, .ref g7, .ref g8])), (g0, .inl (cI, 58, .inl (rowL (n, P, F, G)))), (g5, .inl (cI, 11, .inl (fun _ => -1000001))), (g6, .inl (cI, 11, .inl (fun _ => -1000001)))] H := hP
        have hD : va_D AM [(m0, .inr (5, [.ref g0, .ref g1, .ref g2, .int (nI ms), .ref g3, .ref g4, .int (nI N), .int (nI ax), .ref g5, .ref g6, .int (-1000001), .int 0, .int (-1000001), .int fs, .ref g7, .ref g8])), (g0, .inl (cI, 58, .inl (rowL (n, P, F, G)))), (g5, .inl (cI, 11, .inl (fun _ => -1000001))), (g6, .inl (cI, 11, .inl (fun _ => -1000001)))] := hD
        refine lv_aload_n hx hb dX5_goRun_47 rfl (lv_at hl 0 rfl) ?_
        refine va_get (D := D) (ci := 5) (v := .ref g0) (C := RX5) (T := TX5) (N := 16) hx hb hts in_X5_goRun_5 hown hK hP 0 rfl rfl 0 (by decide) (hts (.fieldLink RX5 7 "HoseSpansModel" "now" "[I") (List.mem_of_getElem? (i := 7) (by decide +kernel))) (fun _ h9 => h9) rfl dX5_goRun_48 ?_
        refine lv_iconst (v := 3) hx hb dX5_goRun_51 (by decide) ?_
        refine va_iald hx hb hK hP 1 0 rfl rfl (vp_in_nI (n := 3) (by decide) (by decide)) dX5_goRun_52 ?_
        refine e_n (y := (rowL (n, P, F, G)) 3) (congrArg (rowL (n, P, F, G)) (by decide)) ?_
        refine e_n (y := G 1) rfl ?_
        refine lv_istore_n (lv' := [(3, .int (G 1)), (0, .ref m0), (1, .int q), (2, .int (nI S))]) hx hb dX5_goRun_53 rfl hl (by decide) rfl (fun ls hl => ?_)
        refine lv_iconst (v := 0) hx hb dX5_goRun_54 (by decide) ?_
        refine lv_istore (lv' := [(4, .int 0), (3, .int (G 1)), (0, .ref m0), (1, .int q), (2, .int (nI S))]) hx hb dX5_goRun_55 hl (by decide) rfl (fun ls hl => ?_)
        have lp_4 : ∀ (nn : Nat) (i : Nat) (pz xh xo : Int32) (ya yb : Nat → Int32), (i ≤ n + 1) → (runI F G n q S (runF F G n q S) i pz xh xo ya yb) → (n + 1 - i) < nn → ∀ (H : Heap) (locs : List Loc), va_P D vwCl [(m0, .inr (5, [.ref g0, .ref g1, .ref g2, .int (nI ms), .ref g3, .ref g4, .int (nI N), .int (nI ax), .ref g5, .ref g6, .int xh, .int xo, .int (yb n), .int fs, .ref g7, .ref g8])), (g0, .inl (cI, 58, .inl (rowL (n, P, F, G)))), (g5, .inl (cI, 11, .inl ya)), (g6, .inl (cI, 11, .inl yb))] H → va_D AM [(m0, .inr (5, [.ref g0, .ref g1, .ref g2, .int (nI ms), .ref g3, .ref g4, .int (nI N), .int (nI ax), .ref g5, .ref g6, .int xh, .int xo, .int (yb n), .int fs, .ref g7, .ref g8])), (g0, .inl (cI, 58, .inl (rowL (n, P, F, G)))), (g5, .inl (cI, 11, .inl ya)), (g6, .inl (cI, 11, .inl yb))] → va_S AM sM.heap H locs → ∀ (ls : Array Slot), lv_has ls 5 [(0, .ref m0), (1, .int q), (2, .int (nI S)), (3, .int pz), (4, .int (nI i))] → W pM l eM ({ frames := 3, cells := 0, slots := 0, locals := 69 } : Room) sM mM ([.ref m0, .int q, .int (nI S)] : List Value).toArray below meth cM H locs 0 0 (MQ below (QI D (fun (r : Int32) (_ : Unit) => r = bI (metB F G n q S)) (fun (u : Unit) => [(m0, .inr (5, [.ref g0, .ref g1, .ref g2, .int (nI ms), .ref g3, .ref g4, .int (nI N), .int (nI ax), .ref g5, .ref g6, .int ((runF F G n q S).1), .int ((runF F G n q S).2.1), .int ((runF F G n q S).2.2.2 n), .int fs, .ref g7, .ref g8])), (g0, .inl (cI, 58, .inl (rowL (n, P, F, G)))), (g5, .inl (cI, 11, .inl ((runF F G n q S).2.2.1))), (g6, .inl (cI, 11, .inl ((runF F G n q S).2.2.2)))]) AM) ([.ref m0, .int q, .int (nI S)] : List Value).toArray sM 0 0 AM) (F0 mM 57 ls []) := by
          intro nn
          induction nn with
          | zero =>
            intro i pz xh xo ya yb hi hI hm
            exact absurd hm (Nat.not_lt_zero _)
          | succ nn ih_5 =>
            intro i pz xh xo ya yb hi hI hm H locs hP hD hS ls hl
            refine lv_iload hx hb dX5_goRun_57 (lv_at hl 4 rfl) ?_
            refine lv_aload_n hx hb dX5_goRun_59 rfl (lv_at hl 0 rfl) ?_
            refine va_get (D := D) (ci := 5) (v := .ref g0) (C := RX5) (T := TX5) (N := 16) hx hb hts in_X5_goRun_5 hown hK hP 0 rfl rfl 0 (by decide) (hts (.fieldLink RX5 7 "HoseSpansModel" "now" "[I") (List.mem_of_getElem? (i := 7) (by decide +kernel))) (fun _ h9 => h9) rfl dX5_goRun_60 ?_
            refine lv_iconst (v := 0) hx hb dX5_goRun_63 (by decide) ?_
            refine va_iald hx hb hK hP 1 0 rfl rfl (vp_in_nI (n := 0) (by decide) (by decide)) dX5_goRun_64 ?_
            refine e_n (y := (rowL (n, P, F, G)) 0) (congrArg (rowL (n, P, F, G)) (by decide)) ?_
            refine e_n (y := nI n) rfl ?_
            refine lv_icmp_gt (tgt := 201) hx hb dX5_goRun_65 (by decide) (fun c_6 => ?_) (fun c_6 => ?_)
            · have c_6 : n < i := (nI_ltI (by omega) (by omega)).mp c_6
              have hF : (xh, xo, ya, yb) = (runF F G n q S) := by first | exact hI.out (by assumption) | exact hI.stop (by assumption)
              refine lv_aload_n hx hb dX5_goRun_201 rfl (lv_at hl 0 rfl) ?_
              refine va_get (D := D) (ci := 5) (v := .int xo) (C := RX5) (T := TX5) (N := 16) hx hb hts in_X5_goRun_5 hown hK hP 0 rfl rfl 11 (by decide) (hts (.fieldLink RX5 61 "HoseSpansModel" "how" "I") (List.mem_of_getElem? (i := 5) (by decide +kernel))) (fun _ h9 => h9) rfl dX5_goRun_202 ?_
              refine lv_if_ne (tgt := 212) hx hb dX5_goRun_205 (by decide) (fun c_7 => ?_) (fun c_7 => ?_)
              · refine lv_iconst (v := 0) hx hb dX5_goRun_212 (by decide) ?_
                refine e_z (u := ()) hx hb hr (by first | rfl | exact bI_nar _) hlocks hP hD hS dX5_goRun_213 ?_ ?_
                · first | (rw [← hF]; done) | (rw [← hF]; rfl)
                · first | exact bI_t (decide_eq_true (by rw [← hF]; assumption)) | exact bI_f (decide_eq_false (by rw [← hF]; assumption))
              · refine lv_iconst (v := 1) hx hb dX5_goRun_208 (by decide) ?_
                refine lv_goto (tgt := 213) hx hb dX5_goRun_209 (by decide) ?_
                refine e_z (u := ()) hx hb hr (by first | rfl | exact bI_nar _) hlocks hP hD hS dX5_goRun_213 ?_ ?_
                · first | (rw [← hF]; done) | (rw [← hF]; rfl)
                · first | exact bI_t (decide_eq_true (by rw [← hF]; assumption)) | exact bI_f (decide_eq_false (by rw [← hF]; assumption))
            · have c_6 : i ≤ n := by have h := mt (nI_ltI (a := n) (b := i) (by omega) (by omega)).mpr c_6; omega
              refine lv_aload_n hx hb dX5_goRun_68 rfl (lv_at hl 0 rfl) ?_
              refine va_get (D := D) (ci := 5) (v := .int xo) (C := RX5) (T := TX5) (N := 16) hx hb hts in_X5_goRun_5 hown hK hP 0 rfl rfl 11 (by decide) (hts (.fieldLink RX5 61 "HoseSpansModel" "how" "I") (List.mem_of_getElem? (i := 5) (by decide +kernel))) (fun _ h9 => h9) rfl dX5_goRun_69 ?_
              refine lv_if_ne (tgt := 201) hx hb dX5_goRun_72 (by decide) (fun c_8 => ?_) (fun c_8 => ?_)
              · have hF : (xh, xo, ya, yb) = (runF F G n q S) := by first | exact hI.out (by assumption) | exact hI.stop (by assumption)
                refine lv_aload_n hx hb dX5_goRun_201 rfl (lv_at hl 0 rfl) ?_
                refine va_get (D := D) (ci := 5) (v := .int xo) (C := RX5) (T := TX5) (N := 16) hx hb hts in_X5_goRun_5 hown hK hP 0 rfl rfl 11 (by decide) (hts (.fieldLink RX5 61 "HoseSpansModel" "how" "I") (List.mem_of_getElem? (i := 5) (by decide +kernel))) (fun _ h9 => h9) rfl dX5_goRun_202 ?_
                refine lv_if_ne (tgt := 212) hx hb dX5_goRun_205 (by decide) (fun c_9 => ?_) (fun c_9 => ?_)
                · refine lv_iconst (v := 0) hx hb dX5_goRun_212 (by decide) ?_
                  refine e_z (u := ()) hx hb hr (by first | rfl | exact bI_nar _) hlocks hP hD hS dX5_goRun_213 ?_ ?_
                  · first | (rw [← hF]; done) | (rw [← hF]; rfl)
                  · first | exact bI_t (decide_eq_true (by rw [← hF]; assumption)) | exact bI_f (decide_eq_false (by rw [← hF]; assumption))
                · refine lv_iconst (v := 1) hx hb dX5_goRun_208 (by decide) ?_
                  refine lv_goto (tgt := 213) hx hb dX5_goRun_209 (by decide) ?_
                  refine e_z (u := ()) hx hb hr (by first | rfl | exact bI_nar _) hlocks hP hD hS dX5_goRun_213 ?_ ?_
                  · first | (rw [← hF]; done) | (rw [← hF]; rfl)
                  · first | exact bI_t (decide_eq_true (by rw [← hF]; assumption)) | exact bI_f (decide_eq_false (by rw [← hF]; assumption))
              · have hho := c_8
                have hI := hI.go c_8
                refine lv_aload_n hx hb dX5_goRun_75 rfl (lv_at hl 0 rfl) ?_
                refine va_get (D := D) (ci := 5) (v := .ref g5) (C := RX5) (T := TX5) (N := 16) hx hb hts in_X5_goRun_5 hown hK hP 0 rfl rfl 8 (by decide) (hts (.fieldLink RX5 25 "HoseSpansModel" "into" "[I") (List.mem_of_getElem? (i := 1) (by decide +kernel))) (fun _ h9 => h9) rfl dX5_goRun_76 ?_
                refine lv_iload hx hb dX5_goRun_79 (lv_at hl 4 rfl) ?_
                refine lv_iload_n hx hb dX5_goRun_81 rfl (lv_at hl 3 rfl) ?_
                refine va_iast hx hb hK hP hD hS 2 0 rfl rfl (vp_in_nI (by omega) (by decide)) dX5_goRun_82 (fun H locs hP hD hS => ?_)
                rw [show Int32.toNatClampNeg (nI i) = i from (nI_clamp (by omega))] at hP hD
                have hP : va_P D vwCl [(m0, .inr (5, [.ref g0, .ref g1, .ref g2, .int (nI ms), .ref g3, .ref g4, .int (nI N), .int (nI ax), .ref g5, .ref g6, .int xh, .int xo, .int (yb n), .int fs, .ref g7, .ref g8])), (g0, .inl (cI, 58, .inl (rowL (n, P, F, G)))), (g5, .inl (cI, 11, .inl (upd ya i pz))), (g6, .inl (cI, 11, .inl yb))] H := hP
                have hD : va_D AM [(m0, .inr (5, [.ref g0, .ref g1, .ref g2, .int (nI ms), .ref g3, .ref g4, .int (nI N), .int (nI ax), .ref g5, .ref g6, .int xh, .int xo, .int (yb n), .int fs, .ref g7, .ref g8])), (g0, .inl (cI, 58, .inl (rowL (n, P, F, G)))), (g5, .inl (cI, 11, .inl (upd ya i pz))), (g6, .inl (cI, 11, .inl yb))] := hD
                refine lv_iload_n hx hb dX5_goRun_83 rfl (lv_at hl 2 rfl) ?_
                refine lv_iload hx hb dX5_goRun_84 (lv_at hl 4 rfl) ?_
                refine k_i (va_runS (As := [.int (nI S), .int (nI i)]) (rest := []) ⟨hx, hb, hml, hown, hts⟩ (c_X5_has l D cI cB cO H.size S i (by first | assumption | omega | exact okFacts.sort (by assumption) (by omega)) (by first | assumption | omega | exact okFacts.sort (by assumption) (by omega))) (va_cwS 2 hts gX5_goRun_X5_has rfl rfl rfl (by decide +kernel) ⟨Nat.le_of_ble_eq_true rfl, Nat.le_of_ble_eq_true rfl⟩) (preS_of hK hP hD hS hA hSt [] (by decide) rfl) rfl rfl hl.1 rfl (lv_room (Nat.le_of_ble_eq_true rfl)) dX5_goRun_86 ⟨Nat.le_of_ble_eq_true rfl, Nat.le_of_ble_eq_true rfl⟩) hP hD hS hA [] [0, 1, 2, 3] [0, 1, 2, 3] [(m0, .inr (5, [.ref g0, .ref g1, .ref g2, .int (nI ms), .ref g3, .ref g4, .int (nI N), .int (nI ax), .ref g5, .ref g6, .int xh, .int xo, .int (yb n), .int fs, .ref g7, .ref g8])), (g0, .inl (cI, 58, .inl (rowL (n, P, F, G)))), (g5, .inl (cI, 11, .inl (upd ya i pz))), (g6, .inl (cI, 11, .inl yb))] (fun (u_10 : Unit) => [(m0, .inr (5, [.ref g0, .ref g1, .ref g2, .int (nI ms), .ref g3, .ref g4, .int (nI N), .int (nI ax), .ref g5, .ref g6, .int xh, .int xo, .int (yb n), .int fs, .ref g7, .ref g8])), (g0, .inl (cI, 58, .inl (rowL (n, P, F, G)))), (g5, .inl (cI, 11, .inl (upd ya i pz))), (g6, .inl (cI, 11, .inl yb))]) rfl rfl (by decide) (by decide) (by decide) (fun _ => rfl) (fun r_10 u_10 H locs q_10 hP hD hS => ?_)
                obtain rfl : r_10 = bI (S.testBit i) := q_10
                refine lv_if_eq (tgt := 112) hx hb dX5_goRun_89 (by decide) (fun c_11 => ?_) (fun c_11 => ?_)
                · have c_11 := bI_0.mp c_11
                  have hq : S.testBit i = false ∨ ¬ pz < G 4 := Or.inl c_11
                  have hbit := c_11
                  refine lv_iload_n hx hb dX5_goRun_112 rfl (lv_at hl 2 rfl) ?_
                  refine lv_iload hx hb dX5_goRun_113 (lv_at hl 4 rfl) ?_
                  refine k_i (va_runS (As := [.int (nI S), .int (nI i)]) (rest := []) ⟨hx, hb, hml, hown, hts⟩ (c_X5_has l D cI cB cO H.size S i (by first | assumption | omega | exact okFacts.sort (by assumption) (by omega)) (by first | assumption | omega | exact okFacts.sort (by assumption) (by omega))) (va_cwS 2 hts gX5_goRun_X5_has rfl rfl rfl (by decide +kernel) ⟨Nat.le_of_ble_eq_true rfl, Nat.le_of_ble_eq_true rfl⟩) (preS_of hK hP hD hS hA hSt [] (by decide) rfl) rfl rfl hl.1 rfl (lv_room (Nat.le_of_ble_eq_true rfl)) dX5_goRun_115 ⟨Nat.le_of_ble_eq_true rfl, Nat.le_of_ble_eq_true rfl⟩) hP hD hS hA [] [0, 1, 2, 3] [0, 1, 2, 3] [(m0, .inr (5, [.ref g0, .ref g1, .ref g2, .int (nI ms), .ref g3, .ref g4, .int (nI N), .int (nI ax), .ref g5, .ref g6, .int xh, .int xo, .int (yb n), .int fs, .ref g7, .ref g8])), (g0, .inl (cI, 58, .inl (rowL (n, P, F, G)))), (g5, .inl (cI, 11, .inl (upd ya i pz))), (g6, .inl (cI, 11, .inl yb))] (fun (u_12 : Unit) => [(m0, .inr (5, [.ref g0, .ref g1, .ref g2, .int (nI ms), .ref g3, .ref g4, .int (nI N), .int (nI ax), .ref g5, .ref g6, .int xh, .int xo, .int (yb n), .int fs, .ref g7, .ref g8])), (g0, .inl (cI, 58, .inl (rowL (n, P, F, G)))), (g5, .inl (cI, 11, .inl (upd ya i pz))), (g6, .inl (cI, 11, .inl yb))]) rfl rfl (by decide) (by decide) (by decide) (fun _ => rfl) (fun r_12 u_12 H locs q_12 hP hD hS => ?_)
                  obtain rfl : r_12 = bI (S.testBit i) := q_12
                  refine lv_if_eq (tgt := 140) hx hb dX5_goRun_118 (by decide) (fun c_13 => ?_) (fun c_13 => ?_)
                  · have c_13 := bI_0.mp c_13
                    refine lv_iload_n hx hb dX5_goRun_140 rfl (lv_at hl 3 rfl) ?_
                    refine e_n (y := afterP G (S.testBit i) pz) (by first | exact aft_f (by assumption) | exact aft_1 (by assumption) (by assumption) | exact aft_2 (by assumption) (by assumption)) ?_
                    refine lv_istore_n (lv' := [(3, .int (afterP G (S.testBit i) pz)), (0, .ref m0), (1, .int q), (2, .int (nI S)), (4, .int (nI i))]) hx hb dX5_goRun_141 rfl hl (by decide) rfl (fun ls hl => ?_)
                    refine lv_aload_n hx hb dX5_goRun_142 rfl (lv_at hl 1 rfl) ?_
                    refine va_get (D := D) (ci := 5) (v := .ref g6) (C := RX5) (T := TX5) (N := 16) hx hb hts in_X5_goRun_5 hown hK hP 0 rfl rfl 9 (by decide) (hts (.fieldLink RX5 28 "HoseSpansModel" "behind" "[I") (List.mem_of_getElem? (i := 3) (by decide +kernel))) (fun _ h9 => h9) rfl dX5_goRun_143 ?_
                    refine lv_iload hx hb dX5_goRun_146 (lv_at hl 4 rfl) ?_
                    refine lv_iload_n hx hb dX5_goRun_148 rfl (lv_at hl 0 rfl) ?_
                    refine va_iast hx hb hK hP hD hS 3 0 rfl rfl (vp_in_nI (by omega) (by decide)) dX5_goRun_149 (fun H locs hP hD hS => ?_)
                    rw [show Int32.toNatClampNeg (nI i) = i from (nI_clamp (by omega))] at hP hD
                    have hP : va_P D vwCl [(m0, .inr (5, [.ref g0, .ref g1, .ref g2, .int (nI ms), .ref g3, .ref g4, .int (nI N), .int (nI ax), .ref g5, .ref g6, .int xh, .int xo, .int (yb n), .int fs, .ref g7, .ref g8])), (g0, .inl (cI, 58, .inl (rowL (n, P, F, G)))), (g5, .inl (cI, 11, .inl (upd ya i pz))), (g6, .inl (cI, 11, .inl (upd yb i (afterP G (S.testBit i) pz))))] H := hP
                    have hD : va_D AM [(m0, .inr (5, [.ref g0, .ref g1, .ref g2, .int (nI ms), .ref g3, .ref g4, .int (nI N), .int (nI ax), .ref g5, .ref g6, .int xh, .int xo, .int (yb n), .int fs, .ref g7, .ref g8])), (g0, .inl (cI, 58, .inl (rowL (n, P, F, G)))), (g5, .inl (cI, 11, .inl (upd ya i pz))), (g6, .inl (cI, 11, .inl (upd yb i (afterP G (S.testBit i) pz))))] := hD
                    rw [show (upd yb i (afterP G (S.testBit i) pz)) = (bAt G (S.testBit i) i pz yb) from (bAt_p hq).symm] at hP hD
                    have hP : va_P D vwCl [(m0, .inr (5, [.ref g0, .ref g1, .ref g2, .int (nI ms), .ref g3, .ref g4, .int (nI N), .int (nI ax), .ref g5, .ref g6, .int xh, .int xo, .int (yb n), .int fs, .ref g7, .ref g8])), (g0, .inl (cI, 58, .inl (rowL (n, P, F, G)))), (g5, .inl (cI, 11, .inl (upd ya i pz))), (g6, .inl (cI, 11, .inl (bAt G (S.testBit i) i pz yb)))] H := hP
                    have hD : va_D AM [(m0, .inr (5, [.ref g0, .ref g1, .ref g2, .int (nI ms), .ref g3, .ref g4, .int (nI N), .int (nI ax), .ref g5, .ref g6, .int xh, .int xo, .int (yb n), .int fs, .ref g7, .ref g8])), (g0, .inl (cI, 58, .inl (rowL (n, P, F, G)))), (g5, .inl (cI, 11, .inl (upd ya i pz))), (g6, .inl (cI, 11, .inl (bAt G (S.testBit i) i pz yb)))] := hD
                    refine lv_iload hx hb dX5_goRun_150 (lv_at hl 4 rfl) ?_
                    refine lv_aload_n hx hb dX5_goRun_152 rfl (lv_at hl 1 rfl) ?_
                    refine va_get (D := D) (ci := 5) (v := .ref g0) (C := RX5) (T := TX5) (N := 16) hx hb hts in_X5_goRun_5 hown hK hP 0 rfl rfl 0 (by decide) (hts (.fieldLink RX5 7 "HoseSpansModel" "now" "[I") (List.mem_of_getElem? (i := 7) (by decide +kernel))) (fun _ h9 => h9) rfl dX5_goRun_153 ?_
                    refine lv_iconst (v := 0) hx hb dX5_goRun_156 (by decide) ?_
                    refine va_iald hx hb hK hP 1 0 rfl rfl (vp_in_nI (n := 0) (by decide) (by decide)) dX5_goRun_157 ?_
                    refine e_n (y := (rowL (n, P, F, G)) 0) (congrArg (rowL (n, P, F, G)) (by decide)) ?_
                    refine e_n (y := nI n) rfl ?_
                    refine lv_icmp_ne (tgt := 186) hx hb dX5_goRun_158 (by decide) (fun c_14 => ?_) (fun c_14 => ?_)
                    · have c_14 : i < n := by have h : ¬ i = n := fun h => c_14 (by rw [h]); omega
                      refine lv_aload_n hx hb dX5_goRun_186 rfl (lv_at hl 1 rfl) ?_
                      refine lv_iload hx hb dX5_goRun_187 (lv_at hl 4 rfl) ?_
                      refine lv_iload_n hx hb dX5_goRun_189 rfl (lv_at hl 0 rfl) ?_
                      refine lv_iload_n hx hb dX5_goRun_190 rfl (lv_at hl 2 rfl) ?_
                      refine k_i (va_runV (As := [.int (nI i), .int (afterP G (S.testBit i) pz), .int q]) (rest := []) ⟨hx, hb, hml, hown, hts⟩ (c_X5_goOver l D cI cB cO H.size m0 g0 g1 g2 g3 g4 g5 g6 g7 g8 ms N ax xh xo (yb n) fs n P F G i (afterP G (S.testBit i) pz) q (by first | assumption | omega | exact okFacts.sort (by assumption) (by omega)) (by first | assumption | omega | exact okFacts.sort (by assumption) (by omega))) (cwV 3 hts gX5_goRun_X5_goOver rfl rfl rfl (by decide +kernel) ⟨Nat.le_of_ble_eq_true rfl, Nat.le_of_ble_eq_true rfl⟩) (preV_of hK hP hD hS hA hSt [0, 1] (by decide) rfl 0 (ci := 5) rfl rfl) rfl rfl hl.1 rfl (lv_room (Nat.le_of_ble_eq_true rfl)) dX5_goRun_191 ⟨Nat.le_of_ble_eq_true rfl, Nat.le_of_ble_eq_true rfl⟩) hP hD hS hA [0, 1] [2, 3] [2, 3, 0, 1] [(g5, .inl (cI, 11, .inl (upd ya i pz))), (g6, .inl (cI, 11, .inl (bAt G (S.testBit i) i pz yb)))] (fun (u_15 : Unit) => [(m0, .inr (5, [.ref g0, .ref g1, .ref g2, .int (nI ms), .ref g3, .ref g4, .int (nI N), .int (nI ax), .ref g5, .ref g6, .int (onF (failF F i (afterP G (S.testBit i) pz) q) xh (nI i)), .int (onF (failF F i (afterP G (S.testBit i) pz) q) xo (failF F i (afterP G (S.testBit i) pz) q)), .int (yb n), .int fs, .ref g7, .ref g8])), (g0, .inl (cI, 58, .inl (rowL (n, P, F, G)))), (g5, .inl (cI, 11, .inl (upd ya i pz))), (g6, .inl (cI, 11, .inl (bAt G (S.testBit i) i pz yb)))]) rfl rfl (by decide) (by decide) (by decide) (fun _ => rfl) (fun r_15 u_15 H locs q_15 hP hD hS => ?_)
                      obtain rfl : r_15 = goV F i (afterP G (S.testBit i) pz) q := q_15
                      refine lv_istore_n (lv' := [(3, .int (goV F i (afterP G (S.testBit i) pz) q)), (0, .ref m0), (1, .int q), (2, .int (nI S)), (4, .int (nI i))]) hx hb dX5_goRun_194 rfl hl (by decide) rfl (fun ls hl => ?_)
                      refine lv_iinc (v := nI (i + 1)) (lv' := [(4, .int (nI (i + 1))), (3, .int (goV F i (afterP G (S.testBit i) pz) q)), (0, .ref m0), (1, .int q), (2, .int (nI S))]) hx hb dX5_goRun_195 hl (k := 4) rfl (nI_add i 1) (by decide) rfl (fun ls hl => ?_)
                      refine lv_goto (tgt := 57) hx hb dX5_goRun_198 (by decide) ?_
                      rw [show (.int (yb n) : Value) = .int ((bAt G (S.testBit i) i pz yb) n) from (congrArg Value.int (by first | exact (bAt_ne (show n ≠ i by omega)).symm | (subst ‹i = n›; exact bAt_n hq)))] at hP hD
                      have hl9 : lv_has ls 5 [(0, .ref m0), (1, .int q), (2, .int (nI S)), (3, .int (goV F i (afterP G (S.testBit i) pz) q)), (4, .int (nI (i + 1)))] := lv_sub hl [2, 3, 4, 1, 0] rfl
                      exact ih_5 (i + 1) (goV F i (afterP G (S.testBit i) pz) q) (onF (failF F i (afterP G (S.testBit i) pz) q) xh (nI i)) (onF (failF F i (afterP G (S.testBit i) pz) q) xo (failF F i (afterP G (S.testBit i) pz) q)) (upd ya i pz) (bAt G (S.testBit i) i pz yb) (by first | assumption | omega | exact okFacts.sort (by assumption) (by omega)) (by first | exact runI.span hI.2 hI.1 hho (by omega) hq | exact runI.n5 hI.2 (by assumption) hq (by assumption) | exact runI.n0 hI.2 hI.1 hho (by assumption) hq (by assumption)) (by omega) H locs hP hD hS ls hl9
                    · have c_14 : i = n := (nI_eq (by omega) (by omega)).mp c_14
                      refine lv_aload_n hx hb dX5_goRun_161 rfl (lv_at hl 1 rfl) ?_
                      refine lv_iload_n hx hb dX5_goRun_162 rfl (lv_at hl 0 rfl) ?_
                      refine va_put (D := D) (ci := 5) (v := .int (afterP G (S.testBit i) pz)) (ty := .int) (C := RX5) (T := TX5) (N := 16) hx hb hts in_X5_goRun_5 tyX5 tyX5_ok nmX5 hown hK hP hD hS 0 rfl rfl 12 (by decide) (hts (.fieldLink RX5 75 "HoseSpansModel" "last" "I") (List.mem_of_getElem? (i := 6) (by decide +kernel))) (fun _ h9 => h9) rfl (by decide +kernel) rfl rfl (Nat.le_of_ble_eq_true rfl) dX5_goRun_163 (fun H locs hP hD hS => ?_)
                      have hP : va_P D vwCl [(m0, .inr (5, [.ref g0, .ref g1, .ref g2, .int (nI ms), .ref g3, .ref g4, .int (nI N), .int (nI ax), .ref g5, .ref g6, .int xh, .int xo, .int (afterP G (S.testBit i) pz), .int fs, .ref g7, .ref g8])), (g0, .inl (cI, 58, .inl (rowL (n, P, F, G)))), (g5, .inl (cI, 11, .inl (upd ya i pz))), (g6, .inl (cI, 11, .inl (bAt G (S.testBit i) i pz yb)))] H := hP
                      have hD : va_D AM [(m0, .inr (5, [.ref g0, .ref g1, .ref g2, .int (nI ms), .ref g3, .ref g4, .int (nI N), .int (nI ax), .ref g5, .ref g6, .int xh, .int xo, .int (afterP G (S.testBit i) pz), .int fs, .ref g7, .ref g8])), (g0, .inl (cI, 58, .inl (rowL (n, P, F, G)))), (g5, .inl (cI, 11, .inl (upd ya i pz))), (g6, .inl (cI, 11, .inl (bAt G (S.testBit i) i pz yb)))] := hD
                      refine lv_iload_n hx hb dX5_goRun_166 rfl (lv_at hl 0 rfl) ?_
                      refine lv_aload_n hx hb dX5_goRun_167 rfl (lv_at hl 1 rfl) ?_
                      refine va_get (D := D) (ci := 5) (v := .ref g0) (C := RX5) (T := TX5) (N := 16) hx hb hts in_X5_goRun_5 hown hK hP 0 rfl rfl 0 (by decide) (hts (.fieldLink RX5 7 "HoseSpansModel" "now" "[I") (List.mem_of_getElem? (i := 7) (by decide +kernel))) (fun _ h9 => h9) rfl dX5_goRun_168 ?_
                      refine lv_iconst (v := 4) hx hb dX5_goRun_171 (by decide) ?_
                      refine va_iald hx hb hK hP 1 0 rfl rfl (vp_in_nI (n := 4) (by decide) (by decide)) dX5_goRun_172 ?_
                      refine e_n (y := (rowL (n, P, F, G)) 4) (congrArg (rowL (n, P, F, G)) (by decide)) ?_
                      refine e_n (y := G 2) rfl ?_
                      refine lv_icmp_ge (tgt := 195) hx hb dX5_goRun_173 (by decide) (fun c_16 => ?_) (fun c_16 => ?_)
                      · have c_16 := Int32.not_lt.mpr c_16
                        refine lv_iinc (v := nI (i + 1)) (lv' := [(4, .int (nI (i + 1))), (3, .int (afterP G (S.testBit i) pz)), (0, .ref m0), (1, .int q), (2, .int (nI S))]) hx hb dX5_goRun_195 hl (k := 4) rfl (nI_add i 1) (by decide) rfl (fun ls hl => ?_)
                        refine lv_goto (tgt := 57) hx hb dX5_goRun_198 (by decide) ?_
                        rw [show (.int (afterP G (S.testBit i) pz) : Value) = .int ((bAt G (S.testBit i) i pz yb) n) from (congrArg Value.int (by first | exact (bAt_ne (show n ≠ i by omega)).symm | (subst ‹i = n›; exact bAt_n hq)))] at hP hD
                        have hl9 : lv_has ls 5 [(0, .ref m0), (1, .int q), (2, .int (nI S)), (3, .int (afterP G (S.testBit i) pz)), (4, .int (nI (i + 1)))] := lv_sub hl [2, 3, 4, 1, 0] rfl
                        exact ih_5 (i + 1) (afterP G (S.testBit i) pz) xh xo (upd ya i pz) (bAt G (S.testBit i) i pz yb) (by first | assumption | omega | exact okFacts.sort (by assumption) (by omega)) (by first | exact runI.span hI.2 hI.1 hho (by omega) hq | exact runI.n5 hI.2 (by assumption) hq (by assumption) | exact runI.n0 hI.2 hI.1 hho (by assumption) hq (by assumption)) (by omega) H locs hP hD hS ls hl9
                      · have c_16 := Int32.not_le.mp c_16
                        refine lv_aload_n hx hb dX5_goRun_176 rfl (lv_at hl 1 rfl) ?_
                        refine lv_iload hx hb dX5_goRun_177 (lv_at hl 4 rfl) ?_
                        refine lv_iconst (v := 5) hx hb dX5_goRun_179 (by decide) ?_
                        refine k_v (va_runV (As := [.int (nI i), .int 5]) (rest := []) ⟨hx, hb, hml, hown, hts⟩ (c_X5_fail l D cI cB cO H.size m0 g0 g1 g2 g3 g4 g5 g6 g7 g8 ms N ax xh xo (afterP G (S.testBit i) pz) fs (nI i) 5 ) (cwV 2 hts gX5_goRun_X5_fail rfl rfl rfl (by decide +kernel) ⟨Nat.le_of_ble_eq_true rfl, Nat.le_of_ble_eq_true rfl⟩) (preV_of hK hP hD hS hA hSt [0] (by decide) rfl 0 (ci := 5) rfl rfl) rfl rfl hl.1 rfl (lv_room (Nat.le_of_ble_eq_true rfl)) dX5_goRun_180 ⟨Nat.le_of_ble_eq_true rfl, Nat.le_of_ble_eq_true rfl⟩) hP hD hS hA [0] [1, 2, 3] [3, 0, 1, 2] [(g0, .inl (cI, 58, .inl (rowL (n, P, F, G)))), (g5, .inl (cI, 11, .inl (upd ya i pz))), (g6, .inl (cI, 11, .inl (bAt G (S.testBit i) i pz yb)))] (fun (u_17 : Unit) => [(m0, .inr (5, [.ref g0, .ref g1, .ref g2, .int (nI ms), .ref g3, .ref g4, .int (nI N), .int (nI ax), .ref g5, .ref g6, .int (nI i), .int 5, .int (afterP G (S.testBit i) pz), .int fs, .ref g7, .ref g8])), (g0, .inl (cI, 58, .inl (rowL (n, P, F, G)))), (g5, .inl (cI, 11, .inl (upd ya i pz))), (g6, .inl (cI, 11, .inl (bAt G (S.testBit i) i pz yb)))]) rfl rfl (by decide) (by decide) (by decide) (fun _ => rfl) (fun u_17 H locs q_17 hP hD hS => ?_)
                        refine lv_goto (tgt := 195) hx hb dX5_goRun_183 (by decide) ?_
                        refine lv_iinc (v := nI (i + 1)) (lv' := [(4, .int (nI (i + 1))), (3, .int (afterP G (S.testBit i) pz)), (0, .ref m0), (1, .int q), (2, .int (nI S))]) hx hb dX5_goRun_195 hl (k := 4) rfl (nI_add i 1) (by decide) rfl (fun ls hl => ?_)
                        refine lv_goto (tgt := 57) hx hb dX5_goRun_198 (by decide) ?_
                        rw [show (.int (afterP G (S.testBit i) pz) : Value) = .int ((bAt G (S.testBit i) i pz yb) n) from (congrArg Value.int (by first | exact (bAt_ne (show n ≠ i by omega)).symm | (subst ‹i = n›; exact bAt_n hq)))] at hP hD
                        have hl9 : lv_has ls 5 [(0, .ref m0), (1, .int q), (2, .int (nI S)), (3, .int (afterP G (S.testBit i) pz)), (4, .int (nI (i + 1)))] := lv_sub hl [2, 3, 4, 1, 0] rfl
                        exact ih_5 (i + 1) (afterP G (S.testBit i) pz) (nI i) 5 (upd ya i pz) (bAt G (S.testBit i) i pz yb) (by first | assumption | omega | exact okFacts.sort (by assumption) (by omega)) (by first | exact runI.span hI.2 hI.1 hho (by omega) hq | exact runI.n5 hI.2 (by assumption) hq (by assumption) | exact runI.n0 hI.2 hI.1 hho (by assumption) hq (by assumption)) (by omega) H locs hP hD hS ls hl9
                  · have c_13 := bI_n0.mp c_13
                    exact absurd (hbit.symm.trans c_13) (by decide)
                · have c_11 := bI_n0.mp c_11
                  have hbit := c_11
                  refine lv_iload_n hx hb dX5_goRun_92 rfl (lv_at hl 3 rfl) ?_
                  refine lv_aload_n hx hb dX5_goRun_93 rfl (lv_at hl 0 rfl) ?_
                  refine va_get (D := D) (ci := 5) (v := .ref g0) (C := RX5) (T := TX5) (N := 16) hx hb hts in_X5_goRun_5 hown hK hP 0 rfl rfl 0 (by decide) (hts (.fieldLink RX5 7 "HoseSpansModel" "now" "[I") (List.mem_of_getElem? (i := 7) (by decide +kernel))) (fun _ h9 => h9) rfl dX5_goRun_94 ?_
                  refine lv_bipush (v := 6) hx hb dX5_goRun_97 (by decide) ?_
                  refine va_iald hx hb hK hP 1 0 rfl rfl (vp_in_nI (n := 6) (by decide) (by decide)) dX5_goRun_99 ?_
                  refine e_n (y := (rowL (n, P, F, G)) 6) (congrArg (rowL (n, P, F, G)) (by decide)) ?_
                  refine e_n (y := G 4) rfl ?_
                  refine lv_icmp_ge (tgt := 112) hx hb dX5_goRun_100 (by decide) (fun c_18 => ?_) (fun c_18 => ?_)
                  · have c_18 := Int32.not_lt.mpr c_18
                    have hq : S.testBit i = false ∨ ¬ pz < G 4 := Or.inr c_18
                    refine lv_iload_n hx hb dX5_goRun_112 rfl (lv_at hl 2 rfl) ?_
                    refine lv_iload hx hb dX5_goRun_113 (lv_at hl 4 rfl) ?_
                    refine k_i (va_runS (As := [.int (nI S), .int (nI i)]) (rest := []) ⟨hx, hb, hml, hown, hts⟩ (c_X5_has l D cI cB cO H.size S i (by first | assumption | omega | exact okFacts.sort (by assumption) (by omega)) (by first | assumption | omega | exact okFacts.sort (by assumption) (by omega))) (va_cwS 2 hts gX5_goRun_X5_has rfl rfl rfl (by decide +kernel) ⟨Nat.le_of_ble_eq_true rfl, Nat.le_of_ble_eq_true rfl⟩) (preS_of hK hP hD hS hA hSt [] (by decide) rfl) rfl rfl hl.1 rfl (lv_room (Nat.le_of_ble_eq_true rfl)) dX5_goRun_115 ⟨Nat.le_of_ble_eq_true rfl, Nat.le_of_ble_eq_true rfl⟩) hP hD hS hA [] [0, 1, 2, 3] [0, 1, 2, 3] [(m0, .inr (5, [.ref g0, .ref g1, .ref g2, .int (nI ms), .ref g3, .ref g4, .int (nI N), .int (nI ax), .ref g5, .ref g6, .int xh, .int xo, .int (yb n), .int fs, .ref g7, .ref g8])), (g0, .inl (cI, 58, .inl (rowL (n, P, F, G)))), (g5, .inl (cI, 11, .inl (upd ya i pz))), (g6, .inl (cI, 11, .inl yb))] (fun (u_19 : Unit) => [(m0, .inr (5, [.ref g0, .ref g1, .ref g2, .int (nI ms), .ref g3, .ref g4, .int (nI N), .int (nI ax), .ref g5, .ref g6, .int xh, .int xo, .int (yb n), .int fs, .ref g7, .ref g8])), (g0, .inl (cI, 58, .inl (rowL (n, P, F, G)))), (g5, .inl (cI, 11, .inl (upd ya i pz))), (g6, .inl (cI, 11, .inl yb))]) rfl rfl (by decide) (by decide) (by decide) (fun _ => rfl) (fun r_19 u_19 H locs q_19 hP hD hS => ?_)
                    obtain rfl : r_19 = bI (S.testBit i) := q_19
                    refine lv_if_eq (tgt := 140) hx hb dX5_goRun_118 (by decide) (fun c_20 => ?_) (fun c_20 => ?_)
                    · have c_20 := bI_0.mp c_20
                      exact absurd (hbit.symm.trans c_20) (by decide)
                    · have c_20 := bI_n0.mp c_20
                      refine lv_aload_n hx hb dX5_goRun_121 rfl (lv_at hl 0 rfl) ?_
                      refine va_get (D := D) (ci := 5) (v := .ref g0) (C := RX5) (T := TX5) (N := 16) hx hb hts in_X5_goRun_5 hown hK hP 0 rfl rfl 0 (by decide) (hts (.fieldLink RX5 7 "HoseSpansModel" "now" "[I") (List.mem_of_getElem? (i := 7) (by decide +kernel))) (fun _ h9 => h9) rfl dX5_goRun_122 ?_
                      refine lv_iconst (v := 5) hx hb dX5_goRun_125 (by decide) ?_
                      refine va_iald hx hb hK hP 1 0 rfl rfl (vp_in_nI (n := 5) (by decide) (by decide)) dX5_goRun_126 ?_
                      refine e_n (y := (rowL (n, P, F, G)) 5) (congrArg (rowL (n, P, F, G)) (by decide)) ?_
                      refine e_n (y := G 3) rfl ?_
                      refine lv_iload_n hx hb dX5_goRun_127 rfl (lv_at hl 3 rfl) ?_
                      refine lv_icmp_le (tgt := 140) hx hb dX5_goRun_128 (by decide) (fun c_21 => ?_) (fun c_21 => ?_)
                      · have c_21 := Int32.not_lt.mpr c_21
                        refine lv_iload_n hx hb dX5_goRun_140 rfl (lv_at hl 3 rfl) ?_
                        refine e_n (y := afterP G (S.testBit i) pz) (by first | exact aft_f (by assumption) | exact aft_1 (by assumption) (by assumption) | exact aft_2 (by assumption) (by assumption)) ?_
                        refine lv_istore_n (lv' := [(3, .int (afterP G (S.testBit i) pz)), (0, .ref m0), (1, .int q), (2, .int (nI S)), (4, .int (nI i))]) hx hb dX5_goRun_141 rfl hl (by decide) rfl (fun ls hl => ?_)
                        refine lv_aload_n hx hb dX5_goRun_142 rfl (lv_at hl 1 rfl) ?_
                        refine va_get (D := D) (ci := 5) (v := .ref g6) (C := RX5) (T := TX5) (N := 16) hx hb hts in_X5_goRun_5 hown hK hP 0 rfl rfl 9 (by decide) (hts (.fieldLink RX5 28 "HoseSpansModel" "behind" "[I") (List.mem_of_getElem? (i := 3) (by decide +kernel))) (fun _ h9 => h9) rfl dX5_goRun_143 ?_
                        refine lv_iload hx hb dX5_goRun_146 (lv_at hl 4 rfl) ?_
                        refine lv_iload_n hx hb dX5_goRun_148 rfl (lv_at hl 0 rfl) ?_
                        refine va_iast hx hb hK hP hD hS 3 0 rfl rfl (vp_in_nI (by omega) (by decide)) dX5_goRun_149 (fun H locs hP hD hS => ?_)
                        rw [show Int32.toNatClampNeg (nI i) = i from (nI_clamp (by omega))] at hP hD
                        have hP : va_P D vwCl [(m0, .inr (5, [.ref g0, .ref g1, .ref g2, .int (nI ms), .ref g3, .ref g4, .int (nI N), .int (nI ax), .ref g5, .ref g6, .int xh, .int xo, .int (yb n), .int fs, .ref g7, .ref g8])), (g0, .inl (cI, 58, .inl (rowL (n, P, F, G)))), (g5, .inl (cI, 11, .inl (upd ya i pz))), (g6, .inl (cI, 11, .inl (upd yb i (afterP G (S.testBit i) pz))))] H := hP
                        have hD : va_D AM [(m0, .inr (5, [.ref g0, .ref g1, .ref g2, .int (nI ms), .ref g3, .ref g4, .int (nI N), .int (nI ax), .ref g5, .ref g6, .int xh, .int xo, .int (yb n), .int fs, .ref g7, .ref g8])), (g0, .inl (cI, 58, .inl (rowL (n, P, F, G)))), (g5, .inl (cI, 11, .inl (upd ya i pz))), (g6, .inl (cI, 11, .inl (upd yb i (afterP G (S.testBit i) pz))))] := hD
                        rw [show (upd yb i (afterP G (S.testBit i) pz)) = (bAt G (S.testBit i) i pz yb) from (bAt_p hq).symm] at hP hD
                        have hP : va_P D vwCl [(m0, .inr (5, [.ref g0, .ref g1, .ref g2, .int (nI ms), .ref g3, .ref g4, .int (nI N), .int (nI ax), .ref g5, .ref g6, .int xh, .int xo, .int (yb n), .int fs, .ref g7, .ref g8])), (g0, .inl (cI, 58, .inl (rowL (n, P, F, G)))), (g5, .inl (cI, 11, .inl (upd ya i pz))), (g6, .inl (cI, 11, .inl (bAt G (S.testBit i) i pz yb)))] H := hP
                        have hD : va_D AM [(m0, .inr (5, [.ref g0, .ref g1, .ref g2, .int (nI ms), .ref g3, .ref g4, .int (nI N), .int (nI ax), .ref g5, .ref g6, .int xh, .int xo, .int (yb n), .int fs, .ref g7, .ref g8])), (g0, .inl (cI, 58, .inl (rowL (n, P, F, G)))), (g5, .inl (cI, 11, .inl (upd ya i pz))), (g6, .inl (cI, 11, .inl (bAt G (S.testBit i) i pz yb)))] := hD
                        refine lv_iload hx hb dX5_goRun_150 (lv_at hl 4 rfl) ?_
                        refine lv_aload_n hx hb dX5_goRun_152 rfl (lv_at hl 1 rfl) ?_
                        refine va_get (D := D) (ci := 5) (v := .ref g0) (C := RX5) (T := TX5) (N := 16) hx hb hts in_X5_goRun_5 hown hK hP 0 rfl rfl 0 (by decide) (hts (.fieldLink RX5 7 "HoseSpansModel" "now" "[I") (List.mem_of_getElem? (i := 7) (by decide +kernel))) (fun _ h9 => h9) rfl dX5_goRun_153 ?_
                        refine lv_iconst (v := 0) hx hb dX5_goRun_156 (by decide) ?_
                        refine va_iald hx hb hK hP 1 0 rfl rfl (vp_in_nI (n := 0) (by decide) (by decide)) dX5_goRun_157 ?_
                        refine e_n (y := (rowL (n, P, F, G)) 0) (congrArg (rowL (n, P, F, G)) (by decide)) ?_
                        refine e_n (y := nI n) rfl ?_
                        refine lv_icmp_ne (tgt := 186) hx hb dX5_goRun_158 (by decide) (fun c_22 => ?_) (fun c_22 => ?_)
                        · have c_22 : i < n := by have h : ¬ i = n := fun h => c_22 (by rw [h]); omega
                          refine lv_aload_n hx hb dX5_goRun_186 rfl (lv_at hl 1 rfl) ?_
                          refine lv_iload hx hb dX5_goRun_187 (lv_at hl 4 rfl) ?_
                          refine lv_iload_n hx hb dX5_goRun_189 rfl (lv_at hl 0 rfl) ?_
                          refine lv_iload_n hx hb dX5_goRun_190 rfl (lv_at hl 2 rfl) ?_
                          refine k_i (va_runV (As := [.int (nI i), .int (afterP G (S.testBit i) pz), .int q]) (rest := []) ⟨hx, hb, hml, hown, hts⟩ (c_X5_goOver l D cI cB cO H.size m0 g0 g1 g2 g3 g4 g5 g6 g7 g8 ms N ax xh xo (yb n) fs n P F G i (afterP G (S.testBit i) pz) q (by first | assumption | omega | exact okFacts.sort (by assumption) (by omega)) (by first | assumption | omega | exact okFacts.sort (by assumption) (by omega))) (cwV 3 hts gX5_goRun_X5_goOver rfl rfl rfl (by decide +kernel) ⟨Nat.le_of_ble_eq_true rfl, Nat.le_of_ble_eq_true rfl⟩) (preV_of hK hP hD hS hA hSt [0, 1] (by decide) rfl 0 (ci := 5) rfl rfl) rfl rfl hl.1 rfl (lv_room (Nat.le_of_ble_eq_true rfl)) dX5_goRun_191 ⟨Nat.le_of_ble_eq_true rfl, Nat.le_of_ble_eq_true rfl⟩) hP hD hS hA [0, 1] [2, 3] [2, 3, 0, 1] [(g5, .inl (cI, 11, .inl (upd ya i pz))), (g6, .inl (cI, 11, .inl (bAt G (S.testBit i) i pz yb)))] (fun (u_23 : Unit) => [(m0, .inr (5, [.ref g0, .ref g1, .ref g2, .int (nI ms), .ref g3, .ref g4, .int (nI N), .int (nI ax), .ref g5, .ref g6, .int (onF (failF F i (afterP G (S.testBit i) pz) q) xh (nI i)), .int (onF (failF F i (afterP G (S.testBit i) pz) q) xo (failF F i (afterP G (S.testBit i) pz) q)), .int (yb n), .int fs, .ref g7, .ref g8])), (g0, .inl (cI, 58, .inl (rowL (n, P, F, G)))), (g5, .inl (cI, 11, .inl (upd ya i pz))), (g6, .inl (cI, 11, .inl (bAt G (S.testBit i) i pz yb)))]) rfl rfl (by decide) (by decide) (by decide) (fun _ => rfl) (fun r_23 u_23 H locs q_23 hP hD hS => ?_)
                          obtain rfl : r_23 = goV F i (afterP G (S.testBit i) pz) q := q_23
                          refine lv_istore_n (lv' := [(3, .int (goV F i (afterP G (S.testBit i) pz) q)), (0, .ref m0), (1, .int q), (2, .int (nI S)), (4, .int (nI i))]) hx hb dX5_goRun_194 rfl hl (by decide) rfl (fun ls hl => ?_)
                          refine lv_iinc (v := nI (i + 1)) (lv' := [(4, .int (nI (i + 1))), (3, .int (goV F i (afterP G (S.testBit i) pz) q)), (0, .ref m0), (1, .int q), (2, .int (nI S))]) hx hb dX5_goRun_195 hl (k := 4) rfl (nI_add i 1) (by decide) rfl (fun ls hl => ?_)
                          refine lv_goto (tgt := 57) hx hb dX5_goRun_198 (by decide) ?_
                          rw [show (.int (yb n) : Value) = .int ((bAt G (S.testBit i) i pz yb) n) from (congrArg Value.int (by first | exact (bAt_ne (show n ≠ i by omega)).symm | (subst ‹i = n›; exact bAt_n hq)))] at hP hD
                          have hl9 : lv_has ls 5 [(0, .ref m0), (1, .int q), (2, .int (nI S)), (3, .int (goV F i (afterP G (S.testBit i) pz) q)), (4, .int (nI (i + 1)))] := lv_sub hl [2, 3, 4, 1, 0] rfl
                          exact ih_5 (i + 1) (goV F i (afterP G (S.testBit i) pz) q) (onF (failF F i (afterP G (S.testBit i) pz) q) xh (nI i)) (onF (failF F i (afterP G (S.testBit i) pz) q) xo (failF F i (afterP G (S.testBit i) pz) q)) (upd ya i pz) (bAt G (S.testBit i) i pz yb) (by first | assumption | omega | exact okFacts.sort (by assumption) (by omega)) (by first | exact runI.span hI.2 hI.1 hho (by omega) hq | exact runI.n5 hI.2 (by assumption) hq (by assumption) | exact runI.n0 hI.2 hI.1 hho (by assumption) hq (by assumption)) (by omega) H locs hP hD hS ls hl9
                        · have c_22 : i = n := (nI_eq (by omega) (by omega)).mp c_22
                          refine lv_aload_n hx hb dX5_goRun_161 rfl (lv_at hl 1 rfl) ?_
                          refine lv_iload_n hx hb dX5_goRun_162 rfl (lv_at hl 0 rfl) ?_
                          refine va_put (D := D) (ci := 5) (v := .int (afterP G (S.testBit i) pz)) (ty := .int) (C := RX5) (T := TX5) (N := 16) hx hb hts in_X5_goRun_5 tyX5 tyX5_ok nmX5 hown hK hP hD hS 0 rfl rfl 12 (by decide) (hts (.fieldLink RX5 75 "HoseSpansModel" "last" "I") (List.mem_of_getElem? (i := 6) (by decide +kernel))) (fun _ h9 => h9) rfl (by decide +kernel) rfl rfl (Nat.le_of_ble_eq_true rfl) dX5_goRun_163 (fun H locs hP hD hS => ?_)
                          have hP : va_P D vwCl [(m0, .inr (5, [.ref g0, .ref g1, .ref g2, .int (nI ms), .ref g3, .ref g4, .int (nI N), .int (nI ax), .ref g5, .ref g6, .int xh, .int xo, .int (afterP G (S.testBit i) pz), .int fs, .ref g7, .ref g8])), (g0, .inl (cI, 58, .inl (rowL (n, P, F, G)))), (g5, .inl (cI, 11, .inl (upd ya i pz))), (g6, .inl (cI, 11, .inl (bAt G (S.testBit i) i pz yb)))] H := hP
                          have hD : va_D AM [(m0, .inr (5, [.ref g0, .ref g1, .ref g2, .int (nI ms), .ref g3, .ref g4, .int (nI N), .int (nI ax), .ref g5, .ref g6, .int xh, .int xo, .int (afterP G (S.testBit i) pz), .int fs, .ref g7, .ref g8])), (g0, .inl (cI, 58, .inl (rowL (n, P, F, G)))), (g5, .inl (cI, 11, .inl (upd ya i pz))), (g6, .inl (cI, 11, .inl (bAt G (S.testBit i) i pz yb)))] := hD
                          refine lv_iload_n hx hb dX5_goRun_166 rfl (lv_at hl 0 rfl) ?_
                          refine lv_aload_n hx hb dX5_goRun_167 rfl (lv_at hl 1 rfl) ?_
                          refine va_get (D := D) (ci := 5) (v := .ref g0) (C := RX5) (T := TX5) (N := 16) hx hb hts in_X5_goRun_5 hown hK hP 0 rfl rfl 0 (by decide) (hts (.fieldLink RX5 7 "HoseSpansModel" "now" "[I") (List.mem_of_getElem? (i := 7) (by decide +kernel))) (fun _ h9 => h9) rfl dX5_goRun_168 ?_
                          refine lv_iconst (v := 4) hx hb dX5_goRun_171 (by decide) ?_
                          refine va_iald hx hb hK hP 1 0 rfl rfl (vp_in_nI (n := 4) (by decide) (by decide)) dX5_goRun_172 ?_
                          refine e_n (y := (rowL (n, P, F, G)) 4) (congrArg (rowL (n, P, F, G)) (by decide)) ?_
                          refine e_n (y := G 2) rfl ?_
                          refine lv_icmp_ge (tgt := 195) hx hb dX5_goRun_173 (by decide) (fun c_24 => ?_) (fun c_24 => ?_)
                          · have c_24 := Int32.not_lt.mpr c_24
                            refine lv_iinc (v := nI (i + 1)) (lv' := [(4, .int (nI (i + 1))), (3, .int (afterP G (S.testBit i) pz)), (0, .ref m0), (1, .int q), (2, .int (nI S))]) hx hb dX5_goRun_195 hl (k := 4) rfl (nI_add i 1) (by decide) rfl (fun ls hl => ?_)
                            refine lv_goto (tgt := 57) hx hb dX5_goRun_198 (by decide) ?_
                            rw [show (.int (afterP G (S.testBit i) pz) : Value) = .int ((bAt G (S.testBit i) i pz yb) n) from (congrArg Value.int (by first | exact (bAt_ne (show n ≠ i by omega)).symm | (subst ‹i = n›; exact bAt_n hq)))] at hP hD
                            have hl9 : lv_has ls 5 [(0, .ref m0), (1, .int q), (2, .int (nI S)), (3, .int (afterP G (S.testBit i) pz)), (4, .int (nI (i + 1)))] := lv_sub hl [2, 3, 4, 1, 0] rfl
                            exact ih_5 (i + 1) (afterP G (S.testBit i) pz) xh xo (upd ya i pz) (bAt G (S.testBit i) i pz yb) (by first | assumption | omega | exact okFacts.sort (by assumption) (by omega)) (by first | exact runI.span hI.2 hI.1 hho (by omega) hq | exact runI.n5 hI.2 (by assumption) hq (by assumption) | exact runI.n0 hI.2 hI.1 hho (by assumption) hq (by assumption)) (by omega) H locs hP hD hS ls hl9
                          · have c_24 := Int32.not_le.mp c_24
                            refine lv_aload_n hx hb dX5_goRun_176 rfl (lv_at hl 1 rfl) ?_
                            refine lv_iload hx hb dX5_goRun_177 (lv_at hl 4 rfl) ?_
                            refine lv_iconst (v := 5) hx hb dX5_goRun_179 (by decide) ?_
                            refine k_v (va_runV (As := [.int (nI i), .int 5]) (rest := []) ⟨hx, hb, hml, hown, hts⟩ (c_X5_fail l D cI cB cO H.size m0 g0 g1 g2 g3 g4 g5 g6 g7 g8 ms N ax xh xo (afterP G (S.testBit i) pz) fs (nI i) 5 ) (cwV 2 hts gX5_goRun_X5_fail rfl rfl rfl (by decide +kernel) ⟨Nat.le_of_ble_eq_true rfl, Nat.le_of_ble_eq_true rfl⟩) (preV_of hK hP hD hS hA hSt [0] (by decide) rfl 0 (ci := 5) rfl rfl) rfl rfl hl.1 rfl (lv_room (Nat.le_of_ble_eq_true rfl)) dX5_goRun_180 ⟨Nat.le_of_ble_eq_true rfl, Nat.le_of_ble_eq_true rfl⟩) hP hD hS hA [0] [1, 2, 3] [3, 0, 1, 2] [(g0, .inl (cI, 58, .inl (rowL (n, P, F, G)))), (g5, .inl (cI, 11, .inl (upd ya i pz))), (g6, .inl (cI, 11, .inl (bAt G (S.testBit i) i pz yb)))] (fun (u_25 : Unit) => [(m0, .inr (5, [.ref g0, .ref g1, .ref g2, .int (nI ms), .ref g3, .ref g4, .int (nI N), .int (nI ax), .ref g5, .ref g6, .int (nI i), .int 5, .int (afterP G (S.testBit i) pz), .int fs, .ref g7, .ref g8])), (g0, .inl (cI, 58, .inl (rowL (n, P, F, G)))), (g5, .inl (cI, 11, .inl (upd ya i pz))), (g6, .inl (cI, 11, .inl (bAt G (S.testBit i) i pz yb)))]) rfl rfl (by decide) (by decide) (by decide) (fun _ => rfl) (fun u_25 H locs q_25 hP hD hS => ?_)
                            refine lv_goto (tgt := 195) hx hb dX5_goRun_183 (by decide) ?_
                            refine lv_iinc (v := nI (i + 1)) (lv' := [(4, .int (nI (i + 1))), (3, .int (afterP G (S.testBit i) pz)), (0, .ref m0), (1, .int q), (2, .int (nI S))]) hx hb dX5_goRun_195 hl (k := 4) rfl (nI_add i 1) (by decide) rfl (fun ls hl => ?_)
                            refine lv_goto (tgt := 57) hx hb dX5_goRun_198 (by decide) ?_
                            rw [show (.int (afterP G (S.testBit i) pz) : Value) = .int ((bAt G (S.testBit i) i pz yb) n) from (congrArg Value.int (by first | exact (bAt_ne (show n ≠ i by omega)).symm | (subst ‹i = n›; exact bAt_n hq)))] at hP hD
                            have hl9 : lv_has ls 5 [(0, .ref m0), (1, .int q), (2, .int (nI S)), (3, .int (afterP G (S.testBit i) pz)), (4, .int (nI (i + 1)))] := lv_sub hl [2, 3, 4, 1, 0] rfl
                            exact ih_5 (i + 1) (afterP G (S.testBit i) pz) (nI i) 5 (upd ya i pz) (bAt G (S.testBit i) i pz yb) (by first | assumption | omega | exact okFacts.sort (by assumption) (by omega)) (by first | exact runI.span hI.2 hI.1 hho (by omega) hq | exact runI.n5 hI.2 (by assumption) hq (by assumption) | exact runI.n0 hI.2 hI.1 hho (by assumption) hq (by assumption)) (by omega) H locs hP hD hS ls hl9
                      · have c_21 := Int32.not_le.mp c_21
                        refine lv_aload_n hx hb dX5_goRun_131 rfl (lv_at hl 0 rfl) ?_
                        refine va_get (D := D) (ci := 5) (v := .ref g0) (C := RX5) (T := TX5) (N := 16) hx hb hts in_X5_goRun_5 hown hK hP 0 rfl rfl 0 (by decide) (hts (.fieldLink RX5 7 "HoseSpansModel" "now" "[I") (List.mem_of_getElem? (i := 7) (by decide +kernel))) (fun _ h9 => h9) rfl dX5_goRun_132 ?_
                        refine lv_iconst (v := 5) hx hb dX5_goRun_135 (by decide) ?_
                        refine va_iald hx hb hK hP 1 0 rfl rfl (vp_in_nI (n := 5) (by decide) (by decide)) dX5_goRun_136 ?_
                        refine e_n (y := (rowL (n, P, F, G)) 5) (congrArg (rowL (n, P, F, G)) (by decide)) ?_
                        refine e_n (y := G 3) rfl ?_
                        refine lv_goto (tgt := 141) hx hb dX5_goRun_137 (by decide) ?_
                        refine e_n (y := afterP G (S.testBit i) pz) (by first | exact aft_f (by assumption) | exact aft_1 (by assumption) (by assumption) | exact aft_2 (by assumption) (by assumption)) ?_
                        refine lv_istore_n (lv' := [(3, .int (afterP G (S.testBit i) pz)), (0, .ref m0), (1, .int q), (2, .int (nI S)), (4, .int (nI i))]) hx hb dX5_goRun_141 rfl hl (by decide) rfl (fun ls hl => ?_)
                        refine lv_aload_n hx hb dX5_goRun_142 rfl (lv_at hl 1 rfl) ?_
                        refine va_get (D := D) (ci := 5) (v := .ref g6) (C := RX5) (T := TX5) (N := 16) hx hb hts in_X5_goRun_5 hown hK hP 0 rfl rfl 9 (by decide) (hts (.fieldLink RX5 28 "HoseSpansModel" "behind" "[I") (List.mem_of_getElem? (i := 3) (by decide +kernel))) (fun _ h9 => h9) rfl dX5_goRun_143 ?_
                        refine lv_iload hx hb dX5_goRun_146 (lv_at hl 4 rfl) ?_
                        refine lv_iload_n hx hb dX5_goRun_148 rfl (lv_at hl 0 rfl) ?_
                        refine va_iast hx hb hK hP hD hS 3 0 rfl rfl (vp_in_nI (by omega) (by decide)) dX5_goRun_149 (fun H locs hP hD hS => ?_)
                        rw [show Int32.toNatClampNeg (nI i) = i from (nI_clamp (by omega))] at hP hD
                        have hP : va_P D vwCl [(m0, .inr (5, [.ref g0, .ref g1, .ref g2, .int (nI ms), .ref g3, .ref g4, .int (nI N), .int (nI ax), .ref g5, .ref g6, .int xh, .int xo, .int (yb n), .int fs, .ref g7, .ref g8])), (g0, .inl (cI, 58, .inl (rowL (n, P, F, G)))), (g5, .inl (cI, 11, .inl (upd ya i pz))), (g6, .inl (cI, 11, .inl (upd yb i (afterP G (S.testBit i) pz))))] H := hP
                        have hD : va_D AM [(m0, .inr (5, [.ref g0, .ref g1, .ref g2, .int (nI ms), .ref g3, .ref g4, .int (nI N), .int (nI ax), .ref g5, .ref g6, .int xh, .int xo, .int (yb n), .int fs, .ref g7, .ref g8])), (g0, .inl (cI, 58, .inl (rowL (n, P, F, G)))), (g5, .inl (cI, 11, .inl (upd ya i pz))), (g6, .inl (cI, 11, .inl (upd yb i (afterP G (S.testBit i) pz))))] := hD
                        rw [show (upd yb i (afterP G (S.testBit i) pz)) = (bAt G (S.testBit i) i pz yb) from (bAt_p hq).symm] at hP hD
                        have hP : va_P D vwCl [(m0, .inr (5, [.ref g0, .ref g1, .ref g2, .int (nI ms), .ref g3, .ref g4, .int (nI N), .int (nI ax), .ref g5, .ref g6, .int xh, .int xo, .int (yb n), .int fs, .ref g7, .ref g8])), (g0, .inl (cI, 58, .inl (rowL (n, P, F, G)))), (g5, .inl (cI, 11, .inl (upd ya i pz))), (g6, .inl (cI, 11, .inl (bAt G (S.testBit i) i pz yb)))] H := hP
                        have hD : va_D AM [(m0, .inr (5, [.ref g0, .ref g1, .ref g2, .int (nI ms), .ref g3, .ref g4, .int (nI N), .int (nI ax), .ref g5, .ref g6, .int xh, .int xo, .int (yb n), .int fs, .ref g7, .ref g8])), (g0, .inl (cI, 58, .inl (rowL (n, P, F, G)))), (g5, .inl (cI, 11, .inl (upd ya i pz))), (g6, .inl (cI, 11, .inl (bAt G (S.testBit i) i pz yb)))] := hD
                        refine lv_iload hx hb dX5_goRun_150 (lv_at hl 4 rfl) ?_
                        refine lv_aload_n hx hb dX5_goRun_152 rfl (lv_at hl 1 rfl) ?_
                        refine va_get (D := D) (ci := 5) (v := .ref g0) (C := RX5) (T := TX5) (N := 16) hx hb hts in_X5_goRun_5 hown hK hP 0 rfl rfl 0 (by decide) (hts (.fieldLink RX5 7 "HoseSpansModel" "now" "[I") (List.mem_of_getElem? (i := 7) (by decide +kernel))) (fun _ h9 => h9) rfl dX5_goRun_153 ?_
                        refine lv_iconst (v := 0) hx hb dX5_goRun_156 (by decide) ?_
                        refine va_iald hx hb hK hP 1 0 rfl rfl (vp_in_nI (n := 0) (by decide) (by decide)) dX5_goRun_157 ?_
                        refine e_n (y := (rowL (n, P, F, G)) 0) (congrArg (rowL (n, P, F, G)) (by decide)) ?_
                        refine e_n (y := nI n) rfl ?_
                        refine lv_icmp_ne (tgt := 186) hx hb dX5_goRun_158 (by decide) (fun c_26 => ?_) (fun c_26 => ?_)
                        · have c_26 : i < n := by have h : ¬ i = n := fun h => c_26 (by rw [h]); omega
                          refine lv_aload_n hx hb dX5_goRun_186 rfl (lv_at hl 1 rfl) ?_
                          refine lv_iload hx hb dX5_goRun_187 (lv_at hl 4 rfl) ?_
                          refine lv_iload_n hx hb dX5_goRun_189 rfl (lv_at hl 0 rfl) ?_
                          refine lv_iload_n hx hb dX5_goRun_190 rfl (lv_at hl 2 rfl) ?_
                          refine k_i (va_runV (As := [.int (nI i), .int (afterP G (S.testBit i) pz), .int q]) (rest := []) ⟨hx, hb, hml, hown, hts⟩ (c_X5_goOver l D cI cB cO H.size m0 g0 g1 g2 g3 g4 g5 g6 g7 g8 ms N ax xh xo (yb n) fs n P F G i (afterP G (S.testBit i) pz) q (by first | assumption | omega | exact okFacts.sort (by assumption) (by omega)) (by first | assumption | omega | exact okFacts.sort (by assumption) (by omega))) (cwV 3 hts gX5_goRun_X5_goOver rfl rfl rfl (by decide +kernel) ⟨Nat.le_of_ble_eq_true rfl, Nat.le_of_ble_eq_true rfl⟩) (preV_of hK hP hD hS hA hSt [0, 1] (by decide) rfl 0 (ci := 5) rfl rfl) rfl rfl hl.1 rfl (lv_room (Nat.le_of_ble_eq_true rfl)) dX5_goRun_191 ⟨Nat.le_of_ble_eq_true rfl, Nat.le_of_ble_eq_true rfl⟩) hP hD hS hA [0, 1] [2, 3] [2, 3, 0, 1] [(g5, .inl (cI, 11, .inl (upd ya i pz))), (g6, .inl (cI, 11, .inl (bAt G (S.testBit i) i pz yb)))] (fun (u_27 : Unit) => [(m0, .inr (5, [.ref g0, .ref g1, .ref g2, .int (nI ms), .ref g3, .ref g4, .int (nI N), .int (nI ax), .ref g5, .ref g6, .int (onF (failF F i (afterP G (S.testBit i) pz) q) xh (nI i)), .int (onF (failF F i (afterP G (S.testBit i) pz) q) xo (failF F i (afterP G (S.testBit i) pz) q)), .int (yb n), .int fs, .ref g7, .ref g8])), (g0, .inl (cI, 58, .inl (rowL (n, P, F, G)))), (g5, .inl (cI, 11, .inl (upd ya i pz))), (g6, .inl (cI, 11, .inl (bAt G (S.testBit i) i pz yb)))]) rfl rfl (by decide) (by decide) (by decide) (fun _ => rfl) (fun r_27 u_27 H locs q_27 hP hD hS => ?_)
                          obtain rfl : r_27 = goV F i (afterP G (S.testBit i) pz) q := q_27
                          refine lv_istore_n (lv' := [(3, .int (goV F i (afterP G (S.testBit i) pz) q)), (0, .ref m0), (1, .int q), (2, .int (nI S)), (4, .int (nI i))]) hx hb dX5_goRun_194 rfl hl (by decide) rfl (fun ls hl => ?_)
                          refine lv_iinc (v := nI (i + 1)) (lv' := [(4, .int (nI (i + 1))), (3, .int (goV F i (afterP G (S.testBit i) pz) q)), (0, .ref m0), (1, .int q), (2, .int (nI S))]) hx hb dX5_goRun_195 hl (k := 4) rfl (nI_add i 1) (by decide) rfl (fun ls hl => ?_)
                          refine lv_goto (tgt := 57) hx hb dX5_goRun_198 (by decide) ?_
                          rw [show (.int (yb n) : Value) = .int ((bAt G (S.testBit i) i pz yb) n) from (congrArg Value.int (by first | exact (bAt_ne (show n ≠ i by omega)).symm | (subst ‹i = n›; exact bAt_n hq)))] at hP hD
                          have hl9 : lv_has ls 5 [(0, .ref m0), (1, .int q), (2, .int (nI S)), (3, .int (goV F i (afterP G (S.testBit i) pz) q)), (4, .int (nI (i + 1)))] := lv_sub hl [2, 3, 4, 1, 0] rfl
                          exact ih_5 (i + 1) (goV F i (afterP G (S.testBit i) pz) q) (onF (failF F i (afterP G (S.testBit i) pz) q) xh (nI i)) (onF (failF F i (afterP G (S.testBit i) pz) q) xo (failF F i (afterP G (S.testBit i) pz) q)) (upd ya i pz) (bAt G (S.testBit i) i pz yb) (by first | assumption | omega | exact okFacts.sort (by assumption) (by omega)) (by first | exact runI.span hI.2 hI.1 hho (by omega) hq | exact runI.n5 hI.2 (by assumption) hq (by assumption) | exact runI.n0 hI.2 hI.1 hho (by assumption) hq (by assumption)) (by omega) H locs hP hD hS ls hl9
                        · have c_26 : i = n := (nI_eq (by omega) (by omega)).mp c_26
                          refine lv_aload_n hx hb dX5_goRun_161 rfl (lv_at hl 1 rfl) ?_
                          refine lv_iload_n hx hb dX5_goRun_162 rfl (lv_at hl 0 rfl) ?_
                          refine va_put (D := D) (ci := 5) (v := .int (afterP G (S.testBit i) pz)) (ty := .int) (C := RX5) (T := TX5) (N := 16) hx hb hts in_X5_goRun_5 tyX5 tyX5_ok nmX5 hown hK hP hD hS 0 rfl rfl 12 (by decide) (hts (.fieldLink RX5 75 "HoseSpansModel" "last" "I") (List.mem_of_getElem? (i := 6) (by decide +kernel))) (fun _ h9 => h9) rfl (by decide +kernel) rfl rfl (Nat.le_of_ble_eq_true rfl) dX5_goRun_163 (fun H locs hP hD hS => ?_)
                          have hP : va_P D vwCl [(m0, .inr (5, [.ref g0, .ref g1, .ref g2, .int (nI ms), .ref g3, .ref g4, .int (nI N), .int (nI ax), .ref g5, .ref g6, .int xh, .int xo, .int (afterP G (S.testBit i) pz), .int fs, .ref g7, .ref g8])), (g0, .inl (cI, 58, .inl (rowL (n, P, F, G)))), (g5, .inl (cI, 11, .inl (upd ya i pz))), (g6, .inl (cI, 11, .inl (bAt G (S.testBit i) i pz yb)))] H := hP
                          have hD : va_D AM [(m0, .inr (5, [.ref g0, .ref g1, .ref g2, .int (nI ms), .ref g3, .ref g4, .int (nI N), .int (nI ax), .ref g5, .ref g6, .int xh, .int xo, .int (afterP G (S.testBit i) pz), .int fs, .ref g7, .ref g8])), (g0, .inl (cI, 58, .inl (rowL (n, P, F, G)))), (g5, .inl (cI, 11, .inl (upd ya i pz))), (g6, .inl (cI, 11, .inl (bAt G (S.testBit i) i pz yb)))] := hD
                          refine lv_iload_n hx hb dX5_goRun_166 rfl (lv_at hl 0 rfl) ?_
                          refine lv_aload_n hx hb dX5_goRun_167 rfl (lv_at hl 1 rfl) ?_
                          refine va_get (D := D) (ci := 5) (v := .ref g0) (C := RX5) (T := TX5) (N := 16) hx hb hts in_X5_goRun_5 hown hK hP 0 rfl rfl 0 (by decide) (hts (.fieldLink RX5 7 "HoseSpansModel" "now" "[I") (List.mem_of_getElem? (i := 7) (by decide +kernel))) (fun _ h9 => h9) rfl dX5_goRun_168 ?_
                          refine lv_iconst (v := 4) hx hb dX5_goRun_171 (by decide) ?_
                          refine va_iald hx hb hK hP 1 0 rfl rfl (vp_in_nI (n := 4) (by decide) (by decide)) dX5_goRun_172 ?_
                          refine e_n (y := (rowL (n, P, F, G)) 4) (congrArg (rowL (n, P, F, G)) (by decide)) ?_
                          refine e_n (y := G 2) rfl ?_
                          refine lv_icmp_ge (tgt := 195) hx hb dX5_goRun_173 (by decide) (fun c_28 => ?_) (fun c_28 => ?_)
                          · have c_28 := Int32.not_lt.mpr c_28
                            refine lv_iinc (v := nI (i + 1)) (lv' := [(4, .int (nI (i + 1))), (3, .int (afterP G (S.testBit i) pz)), (0, .ref m0), (1, .int q), (2, .int (nI S))]) hx hb dX5_goRun_195 hl (k := 4) rfl (nI_add i 1) (by decide) rfl (fun ls hl => ?_)
                            refine lv_goto (tgt := 57) hx hb dX5_goRun_198 (by decide) ?_
                            rw [show (.int (afterP G (S.testBit i) pz) : Value) = .int ((bAt G (S.testBit i) i pz yb) n) from (congrArg Value.int (by first | exact (bAt_ne (show n ≠ i by omega)).symm | (subst ‹i = n›; exact bAt_n hq)))] at hP hD
                            have hl9 : lv_has ls 5 [(0, .ref m0), (1, .int q), (2, .int (nI S)), (3, .int (afterP G (S.testBit i) pz)), (4, .int (nI (i + 1)))] := lv_sub hl [2, 3, 4, 1, 0] rfl
                            exact ih_5 (i + 1) (afterP G (S.testBit i) pz) xh xo (upd ya i pz) (bAt G (S.testBit i) i pz yb) (by first | assumption | omega | exact okFacts.sort (by assumption) (by omega)) (by first | exact runI.span hI.2 hI.1 hho (by omega) hq | exact runI.n5 hI.2 (by assumption) hq (by assumption) | exact runI.n0 hI.2 hI.1 hho (by assumption) hq (by assumption)) (by omega) H locs hP hD hS ls hl9
                          · have c_28 := Int32.not_le.mp c_28
                            refine lv_aload_n hx hb dX5_goRun_176 rfl (lv_at hl 1 rfl) ?_
                            refine lv_iload hx hb dX5_goRun_177 (lv_at hl 4 rfl) ?_
                            refine lv_iconst (v := 5) hx hb dX5_goRun_179 (by decide) ?_
                            refine k_v (va_runV (As := [.int (nI i), .int 5]) (rest := []) ⟨hx, hb, hml, hown, hts⟩ (c_X5_fail l D cI cB cO H.size m0 g0 g1 g2 g3 g4 g5 g6 g7 g8 ms N ax xh xo (afterP G (S.testBit i) pz) fs (nI i) 5 ) (cwV 2 hts gX5_goRun_X5_fail rfl rfl rfl (by decide +kernel) ⟨Nat.le_of_ble_eq_true rfl, Nat.le_of_ble_eq_true rfl⟩) (preV_of hK hP hD hS hA hSt [0] (by decide) rfl 0 (ci := 5) rfl rfl) rfl rfl hl.1 rfl (lv_room (Nat.le_of_ble_eq_true rfl)) dX5_goRun_180 ⟨Nat.le_of_ble_eq_true rfl, Nat.le_of_ble_eq_true rfl⟩) hP hD hS hA [0] [1, 2, 3] [3, 0, 1, 2] [(g0, .inl (cI, 58, .inl (rowL (n, P, F, G)))), (g5, .inl (cI, 11, .inl (upd ya i pz))), (g6, .inl (cI, 11, .inl (bAt G (S.testBit i) i pz yb)))] (fun (u_29 : Unit) => [(m0, .inr (5, [.ref g0, .ref g1, .ref g2, .int (nI ms), .ref g3, .ref g4, .int (nI N), .int (nI ax), .ref g5, .ref g6, .int (nI i), .int 5, .int (afterP G (S.testBit i) pz), .int fs, .ref g7, .ref g8])), (g0, .inl (cI, 58, .inl (rowL (n, P, F, G)))), (g5, .inl (cI, 11, .inl (upd ya i pz))), (g6, .inl (cI, 11, .inl (bAt G (S.testBit i) i pz yb)))]) rfl rfl (by decide) (by decide) (by decide) (fun _ => rfl) (fun u_29 H locs q_29 hP hD hS => ?_)
                            refine lv_goto (tgt := 195) hx hb dX5_goRun_183 (by decide) ?_
                            refine lv_iinc (v := nI (i + 1)) (lv' := [(4, .int (nI (i + 1))), (3, .int (afterP G (S.testBit i) pz)), (0, .ref m0), (1, .int q), (2, .int (nI S))]) hx hb dX5_goRun_195 hl (k := 4) rfl (nI_add i 1) (by decide) rfl (fun ls hl => ?_)
                            refine lv_goto (tgt := 57) hx hb dX5_goRun_198 (by decide) ?_
                            rw [show (.int (afterP G (S.testBit i) pz) : Value) = .int ((bAt G (S.testBit i) i pz yb) n) from (congrArg Value.int (by first | exact (bAt_ne (show n ≠ i by omega)).symm | (subst ‹i = n›; exact bAt_n hq)))] at hP hD
                            have hl9 : lv_has ls 5 [(0, .ref m0), (1, .int q), (2, .int (nI S)), (3, .int (afterP G (S.testBit i) pz)), (4, .int (nI (i + 1)))] := lv_sub hl [2, 3, 4, 1, 0] rfl
                            exact ih_5 (i + 1) (afterP G (S.testBit i) pz) (nI i) 5 (upd ya i pz) (bAt G (S.testBit i) i pz yb) (by first | assumption | omega | exact okFacts.sort (by assumption) (by omega)) (by first | exact runI.span hI.2 hI.1 hho (by omega) hq | exact runI.n5 hI.2 (by assumption) hq (by assumption) | exact runI.n0 hI.2 hI.1 hho (by assumption) hq (by assumption)) (by omega) H locs hP hD hS ls hl9
                  · have c_18 := Int32.not_le.mp c_18
                    refine lv_aload_n hx hb dX5_goRun_103 rfl (lv_at hl 0 rfl) ?_
                    refine lv_iload hx hb dX5_goRun_104 (lv_at hl 4 rfl) ?_
                    refine lv_iconst (v := 2) hx hb dX5_goRun_106 (by decide) ?_
                    refine k_v (va_runV (As := [.int (nI i), .int 2]) (rest := []) ⟨hx, hb, hml, hown, hts⟩ (c_X5_fail l D cI cB cO H.size m0 g0 g1 g2 g3 g4 g5 g6 g7 g8 ms N ax xh xo (yb n) fs (nI i) 2 ) (cwV 2 hts gX5_goRun_X5_fail rfl rfl rfl (by decide +kernel) ⟨Nat.le_of_ble_eq_true rfl, Nat.le_of_ble_eq_true rfl⟩) (preV_of hK hP hD hS hA hSt [0] (by decide) rfl 0 (ci := 5) rfl rfl) rfl rfl hl.1 rfl (lv_room (Nat.le_of_ble_eq_true rfl)) dX5_goRun_107 ⟨Nat.le_of_ble_eq_true rfl, Nat.le_of_ble_eq_true rfl⟩) hP hD hS hA [0] [1, 2, 3] [3, 0, 1, 2] [(g0, .inl (cI, 58, .inl (rowL (n, P, F, G)))), (g5, .inl (cI, 11, .inl (upd ya i pz))), (g6, .inl (cI, 11, .inl yb))] (fun (u_30 : Unit) => [(m0, .inr (5, [.ref g0, .ref g1, .ref g2, .int (nI ms), .ref g3, .ref g4, .int (nI N), .int (nI ax), .ref g5, .ref g6, .int (nI i), .int 2, .int (yb n), .int fs, .ref g7, .ref g8])), (g0, .inl (cI, 58, .inl (rowL (n, P, F, G)))), (g5, .inl (cI, 11, .inl (upd ya i pz))), (g6, .inl (cI, 11, .inl yb))]) rfl rfl (by decide) (by decide) (by decide) (fun _ => rfl) (fun u_30 H locs q_30 hP hD hS => ?_)
                    have hF := runI.f2 hI.2 (by assumption) hbit (by assumption)
                    refine lv_iconst (v := 0) hx hb dX5_goRun_110 (by decide) ?_
                    refine e_z (u := ()) hx hb hr (by first | rfl | exact bI_nar _) hlocks hP hD hS dX5_goRun_111 ?_ ?_
                    · first | (rw [← hF]; done) | (rw [← hF]; rfl)
                    · exact bI_f (decide_eq_false (by rw [← hF]; exact (by decide : ¬ (2 : Int32) = 0)))
        rw [show (.int (-1000001) : Value) = .int ((fun _ => -1000001) n) from rfl] at hP hD
        have hl9 : lv_has ls 5 [(0, .ref m0), (1, .int q), (2, .int (nI S)), (3, .int (G 1)), (4, .int 0)] := lv_sub hl [2, 3, 4, 1, 0] rfl
        rw [show ([(0, .ref m0), (1, .int q), (2, .int (nI S)), (3, .int (G 1)), (4, .int 0)] : List (Nat × Value)) = [(0, .ref m0), (1, .int q), (2, .int (nI S)), (3, .int (G 1)), (4, .int (nI 0))] from rfl] at hl9
        exact lp_4 ((n + 1 - 0) + 1) 0 (G 1) (-1000001) 0 (fun _ => -1000001) (fun _ => -1000001) (by first | assumption | omega | exact okFacts.sort (by assumption) (by omega)) (by exact runI.start) (Nat.lt_succ_self _) H locs hP hD hS ls hl9
      · have c_3 : k ≤ 10 := by have h := mt (nI_ltI (a := 10) (b := k) (by decide) (by omega)).mpr c_3; omega
        refine lv_aload_n hx hb dX5_goRun_8 rfl (lv_at hl 0 rfl) ?_
        refine va_get (D := D) (ci := 5) (v := .ref g5) (C := RX5) (T := TX5) (N := 16) hx hb hts in_X5_goRun_5 hown hK hP 0 rfl rfl 8 (by decide) (hts (.fieldLink RX5 25 "HoseSpansModel" "into" "[I") (List.mem_of_getElem? (i := 1) (by decide +kernel))) (fun _ h9 => h9) rfl dX5_goRun_9 ?_
        refine lv_iload_n hx hb dX5_goRun_12 rfl (lv_at hl 3 rfl) ?_
        refine lv_ldc (v := -1000001) hx hb hown (hts (.constant RX5 74 (-1000001)) (List.mem_of_getElem? (i := 2) (by decide +kernel))) dX5_goRun_13 ?_
        refine va_iast hx hb hK hP hD hS 2 0 rfl rfl (vp_in_nI (by omega) (by decide)) dX5_goRun_15 (fun H locs hP hD hS => ?_)
        rw [show Int32.toNatClampNeg (nI k) = k from (nI_clamp (by omega))] at hP hD
        have hP : va_P D vwCl [(m0, .inr (5, [.ref g0, .ref g1, .ref g2, .int (nI ms), .ref g3, .ref g4, .int (nI N), .int (nI ax), .ref g5, .ref g6, .int fa, .int ho, .int la, .int fs, .ref g7, .ref g8])), (g0, .inl (cI, 58, .inl (rowL (n, P, F, G)))), (g5, .inl (cI, 11, .inl (upd (fillF a (-1000001) k) k (-1000001)))), (g6, .inl (cI, 11, .inl (fillF b (-1000001) k)))] H := hP
        have hD : va_D AM [(m0, .inr (5, [.ref g0, .ref g1, .ref g2, .int (nI ms), .ref g3, .ref g4, .int (nI N), .int (nI ax), .ref g5, .ref g6, .int fa, .int ho, .int la, .int fs, .ref g7, .ref g8])), (g0, .inl (cI, 58, .inl (rowL (n, P, F, G)))), (g5, .inl (cI, 11, .inl (upd (fillF a (-1000001) k) k (-1000001)))), (g6, .inl (cI, 11, .inl (fillF b (-1000001) k)))] := hD
        refine lv_aload_n hx hb dX5_goRun_16 rfl (lv_at hl 0 rfl) ?_
        refine va_get (D := D) (ci := 5) (v := .ref g6) (C := RX5) (T := TX5) (N := 16) hx hb hts in_X5_goRun_5 hown hK hP 0 rfl rfl 9 (by decide) (hts (.fieldLink RX5 28 "HoseSpansModel" "behind" "[I") (List.mem_of_getElem? (i := 3) (by decide +kernel))) (fun _ h9 => h9) rfl dX5_goRun_17 ?_
        refine lv_iload_n hx hb dX5_goRun_20 rfl (lv_at hl 3 rfl) ?_
        refine lv_ldc (v := -1000001) hx hb hown (hts (.constant RX5 74 (-1000001)) (List.mem_of_getElem? (i := 2) (by decide +kernel))) dX5_goRun_21 ?_
        refine va_iast hx hb hK hP hD hS 3 0 rfl rfl (vp_in_nI (by omega) (by decide)) dX5_goRun_23 (fun H locs hP hD hS => ?_)
        rw [show Int32.toNatClampNeg (nI k) = k from (nI_clamp (by omega))] at hP hD
        have hP : va_P D vwCl [(m0, .inr (5, [.ref g0, .ref g1, .ref g2, .int (nI ms), .ref g3, .ref g4, .int (nI N), .int (nI ax), .ref g5, .ref g6, .int fa, .int ho, .int la, .int fs, .ref g7, .ref g8])), (g0, .inl (cI, 58, .inl (rowL (n, P, F, G)))), (g5, .inl (cI, 11, .inl (upd (fillF a (-1000001) k) k (-1000001)))), (g6, .inl (cI, 11, .inl (upd (fillF b (-1000001) k) k (-1000001))))] H := hP
        have hD : va_D AM [(m0, .inr (5, [.ref g0, .ref g1, .ref g2, .int (nI ms), .ref g3, .ref g4, .int (nI N), .int (nI ax), .ref g5, .ref g6, .int fa, .int ho, .int la, .int fs, .ref g7, .ref g8])), (g0, .inl (cI, 58, .inl (rowL (n, P, F, G)))), (g5, .inl (cI, 11, .inl (upd (fillF a (-1000001) k) k (-1000001)))), (g6, .inl (cI, 11, .inl (upd (fillF b (-1000001) k) k (-1000001))))] := hD
        refine lv_iinc (v := nI (k + 1)) (lv' := [(3, .int (nI (k + 1))), (0, .ref m0), (1, .int q), (2, .int (nI S))]) hx hb dX5_goRun_24 hl (k := 3) rfl (nI_add k 1) (by decide) rfl (fun ls hl => ?_)
        refine lv_goto (tgt := 2) hx hb dX5_goRun_27 (by decide) ?_
        rw [show upd (fillF a (-1000001) k) k (-1000001) = fillF a (-1000001) (k + 1) from (fillF_s a (-1000001) k)] at hP hD
        rw [show upd (fillF b (-1000001) k) k (-1000001) = fillF b (-1000001) (k + 1) from (fillF_s b (-1000001) k)] at hP hD
        have hl9 : lv_has ls 5 [(0, .ref m0), (1, .int q), (2, .int (nI S)), (3, .int (nI (k + 1)))] := lv_sub hl [1, 2, 3, 0] rfl
        exact ih_2 (k + 1) (by first | assumption | omega | exact okFacts.sort (by assumption) (by omega)) (by omega) H locs hP hD hS ls hl9
  rw [show a = fillF a (-1000001) 0 from (fillF_0 a (-1000001))] at hP hD
  rw [show b = fillF b (-1000001) 0 from (fillF_0 b (-1000001))] at hP hD
  have hl9 : lv_has ls 5 [(0, .ref m0), (1, .int q), (2, .int (nI S)), (3, .int 0)] := lv_sub hl [1, 2, 3, 0] rfl
  rw [show ([(0, .ref m0), (1, .int q), (2, .int (nI S)), (3, .int 0)] : List (Nat × Value)) = [(0, .ref m0), (1, .int q), (2, .int (nI S)), (3, .int (nI 0))] from rfl] at hl9
  exact lp_1 ((11 - 0) + 1) 0 (by first | assumption | omega | exact okFacts.sort (by assumption) (by omega)) (Nat.lt_succ_self _) H locs hP hD hS ls hl9
theorem in_X5_findFewest_5 : ∀ w ∈ wsX50, w ∈ wsX5_findFewest := fun _ h => List.mem_cons_of_mem _ (List.mem_append_right _ h)
set_option maxHeartbeats 4000000 in
set_option maxRecDepth 100000 in
theorem c_X5_findFewest (l : Launch) (D : va_G) (cI cB cO : ClassId) (sz : Nat) (m0 g0 g1 g2 g3 g4 g5 g6 g7 g8 ms N ax : Nat) (fa ho la fs : Int32) (n : Nat) (P : Int32) (F G : Nat → Int32) (a b : Nat → Int32) (q : Int32) (hn : n ≤ 10) (hf : okFacts F) : CI l yX5_findFewest wsX5_findFewest ({ frames := 4, cells := 0, slots := 0, locals := 93 } : Room) D (tyL cI cB cO) [.ref m0, .int q] [(m0, .inr (5, [.ref g0, .ref g1, .ref g2, .int (nI ms), .ref g3, .ref g4, .int (nI N), .int (nI ax), .ref g5, .ref g6, .int fa, .int ho, .int la, .int fs, .ref g7, .ref g8])), (g0, .inl (cI, 58, .inl (rowL (n, P, F, G)))), (g5, .inl (cI, 11, .inl a)), (g6, .inl (cI, 11, .inl b))] sz (fun (r : Int32) (_ : Rs × Int32) => r = bI (hasB F G n q)) (fun (u : Rs × Int32) => [(m0, .inr (5, [.ref g0, .ref g1, .ref g2, .int (nI ms), .ref g3, .ref g4, .int (nI N), .int (nI ax), .ref g5, .ref g6, .int u.1.1, .int u.1.2.1, .int u.2, .int (brF F G n q (2 ^ n)), .ref g7, .ref g8])), (g0, .inl (cI, 58, .inl (rowL (n, P, F, G)))), (g5, .inl (cI, 11, .inl u.1.2.2.1)), (g6, .inl (cI, 11, .inl u.1.2.2.2))]) 0 0 := by
  refine ct_of (cc := cX5_findFewest) (maxL := 4) (ret := some .boolean) (own := RX5) (Qc := QI D (fun (r : Int32) (_ : Rs × Int32) => r = bI (hasB F G n q)) (fun (u : Rs × Int32) => [(m0, .inr (5, [.ref g0, .ref g1, .ref g2, .int (nI ms), .ref g3, .ref g4, .int (nI N), .int (nI ax), .ref g5, .ref g6, .int u.1.1, .int u.1.2.1, .int u.2, .int (brF F G n q (2 ^ n)), .ref g7, .ref g8])), (g0, .inl (cI, 58, .inl (rowL (n, P, F, G)))), (g5, .inl (cI, 11, .inl u.1.2.2.1)), (g6, .inl (cI, 11, .inl u.1.2.2.2))])) (by decide) rfl rfl (Nat.le_of_ble_eq_true rfl) ?_
  intro pM eM sM mM below meth cM AM ls H locs hx hb hr hts hown hlocks hml hin hK hP hD hS hA hSt hl
  have hl : lv_has ls 4 [(0, .ref m0), (1, .int q)] := hl
  have hpw := pow10 hn
  refine lv_aload_n hx hb dX5_findFewest_0 rfl (lv_at hl 0 rfl) ?_
  refine lv_ldc (v := -1000001) hx hb hown (hts (.constant RX5 74 (-1000001)) (List.mem_of_getElem? (i := 1) (by decide +kernel))) dX5_findFewest_1 ?_
  refine va_put (D := D) (ci := 5) (v := .int (-1000001)) (ty := .int) (C := RX5) (T := TX5) (N := 16) hx hb hts in_X5_findFewest_5 tyX5 tyX5_ok nmX5 hown hK hP hD hS 0 rfl rfl 13 (by decide) (hts (.fieldLink RX5 86 "HoseSpansModel" "fewestSet" "I") (List.mem_of_getElem? (i := 2) (by decide +kernel))) (fun _ h9 => h9) rfl (by decide +kernel) rfl rfl (Nat.le_of_ble_eq_true rfl) dX5_findFewest_3 (fun H locs hP hD hS => ?_)
  have hP : va_P D vwCl [(m0, .inr (5, [.ref g0, .ref g1, .ref g2, .int (nI ms), .ref g3, .ref g4, .int (nI N), .int (nI ax), .ref g5, .ref g6, .int fa, .int ho, .int la, .int (-1000001), .ref g7, .ref g8])), (g0, .inl (cI, 58, .inl (rowL (n, P, F, G)))), (g5, .inl (cI, 11, .inl a)), (g6, .inl (cI, 11, .inl b))] H := hP
  have hD : va_D AM [(m0, .inr (5, [.ref g0, .ref g1, .ref g2, .int (nI ms), .ref g3, .ref g4, .int (nI N), .int (nI ax), .ref g5, .ref g6, .int fa, .int ho, .int la, .int (-1000001), .ref g7, .ref g8])), (g0, .inl (cI, 58, .inl (rowL (n, P, F, G)))), (g5, .inl (cI, 11, .inl a)), (g6, .inl (cI, 11, .inl b))] := hD
  refine lv_iconst (v := 0) hx hb dX5_findFewest_6 (by decide) ?_
  refine lv_istore_n (lv' := [(2, .int 0), (0, .ref m0), (1, .int q)]) hx hb dX5_findFewest_7 rfl hl (by decide) rfl (fun ls hl => ?_)
  have lp_1 : ∀ (nn : Nat) (s : Nat) (xf xh xl : Int32) (ya yb : Nat → Int32), (s ≤ 2 ^ n) → (2 ^ n - s) < nn → ∀ (H : Heap) (locs : List Loc), va_P D vwCl [(m0, .inr (5, [.ref g0, .ref g1, .ref g2, .int (nI ms), .ref g3, .ref g4, .int (nI N), .int (nI ax), .ref g5, .ref g6, .int xf, .int xh, .int xl, .int (brF F G n q s), .ref g7, .ref g8])), (g0, .inl (cI, 58, .inl (rowL (n, P, F, G)))), (g5, .inl (cI, 11, .inl ya)), (g6, .inl (cI, 11, .inl yb))] H → va_D AM [(m0, .inr (5, [.ref g0, .ref g1, .ref g2, .int (nI ms), .ref g3, .ref g4, .int (nI N), .int (nI ax), .ref g5, .ref g6, .int xf, .int xh, .int xl, .int (brF F G n q s), .ref g7, .ref g8])), (g0, .inl (cI, 58, .inl (rowL (n, P, F, G)))), (g5, .inl (cI, 11, .inl ya)), (g6, .inl (cI, 11, .inl yb))] → va_S AM sM.heap H locs → ∀ (ls : Array Slot), lv_has ls 4 [(0, .ref m0), (1, .int q), (2, .int (nI s))] → W pM l eM ({ frames := 4, cells := 0, slots := 0, locals := 93 } : Room) sM mM ([.ref m0, .int q] : List Value).toArray below meth cM H locs 0 0 (MQ below (QI D (fun (r : Int32) (_ : Rs × Int32) => r = bI (hasB F G n q)) (fun (u : Rs × Int32) => [(m0, .inr (5, [.ref g0, .ref g1, .ref g2, .int (nI ms), .ref g3, .ref g4, .int (nI N), .int (nI ax), .ref g5, .ref g6, .int u.1.1, .int u.1.2.1, .int u.2, .int (brF F G n q (2 ^ n)), .ref g7, .ref g8])), (g0, .inl (cI, 58, .inl (rowL (n, P, F, G)))), (g5, .inl (cI, 11, .inl u.1.2.2.1)), (g6, .inl (cI, 11, .inl u.1.2.2.2))]) AM) ([.ref m0, .int q] : List Value).toArray sM 0 0 AM) (F0 mM 8 ls []) := by
    intro nn
    induction nn with
    | zero =>
      intro s xf xh xl ya yb hs hm
      exact absurd hm (Nat.not_lt_zero _)
    | succ nn ih_2 =>
      intro s xf xh xl ya yb hs hm H locs hP hD hS ls hl
      refine lv_iload_n hx hb dX5_findFewest_8 rfl (lv_at hl 2 rfl) ?_
      refine lv_iconst (v := 1) hx hb dX5_findFewest_9 (by decide) ?_
      refine lv_aload_n hx hb dX5_findFewest_10 rfl (lv_at hl 0 rfl) ?_
      refine va_get (D := D) (ci := 5) (v := .ref g0) (C := RX5) (T := TX5) (N := 16) hx hb hts in_X5_findFewest_5 hown hK hP 0 rfl rfl 0 (by decide) (hts (.fieldLink RX5 7 "HoseSpansModel" "now" "[I") (List.mem_of_getElem? (i := 3) (by decide +kernel))) (fun _ h9 => h9) rfl dX5_findFewest_11 ?_
      refine lv_iconst (v := 0) hx hb dX5_findFewest_14 (by decide) ?_
      refine va_iald hx hb hK hP 1 0 rfl rfl (vp_in_nI (n := 0) (by decide) (by decide)) dX5_findFewest_15 ?_
      refine e_n (y := (rowL (n, P, F, G)) 0) (congrArg (rowL (n, P, F, G)) (by decide)) ?_
      refine e_n (y := nI n) rfl ?_
      refine lv_ishl hx hb dX5_findFewest_16 ?_
      refine e_n (y := nI (2 ^ n)) (bit_sh n (by omega)) ?_
      refine lv_icmp_ge (tgt := 80) hx hb dX5_findFewest_17 (by decide) (fun c_3 => ?_) (fun c_3 => ?_)
      · have c_3 := Int32.not_lt.mpr c_3
        have c_3 : ¬ s < 2 ^ n := fun h => c_3 ((nI_ltI (a := s) (b := 2 ^ n) (by omega) (by omega)).mpr h)
        have hE : s = 2 ^ n := by omega
        rw [show (.int (brF F G n q s) : Value) = .int (brF F G n q (2 ^ n)) from congrArg Value.int (by rw [hE])] at hP hD
        have hP : va_P D vwCl [(m0, .inr (5, [.ref g0, .ref g1, .ref g2, .int (nI ms), .ref g3, .ref g4, .int (nI N), .int (nI ax), .ref g5, .ref g6, .int xf, .int xh, .int xl, .int (brF F G n q (2 ^ n)), .ref g7, .ref g8])), (g0, .inl (cI, 58, .inl (rowL (n, P, F, G)))), (g5, .inl (cI, 11, .inl ya)), (g6, .inl (cI, 11, .inl yb))] H := hP
        have hD : va_D AM [(m0, .inr (5, [.ref g0, .ref g1, .ref g2, .int (nI ms), .ref g3, .ref g4, .int (nI N), .int (nI ax), .ref g5, .ref g6, .int xf, .int xh, .int xl, .int (brF F G n q (2 ^ n)), .ref g7, .ref g8])), (g0, .inl (cI, 58, .inl (rowL (n, P, F, G)))), (g5, .inl (cI, 11, .inl ya)), (g6, .inl (cI, 11, .inl yb))] := hD
        refine lv_aload_n hx hb dX5_findFewest_80 rfl (lv_at hl 0 rfl) ?_
        refine va_get (D := D) (ci := 5) (v := .int (brF F G n q (2 ^ n))) (C := RX5) (T := TX5) (N := 16) hx hb hts in_X5_findFewest_5 hown hK hP 0 rfl rfl 13 (by decide) (hts (.fieldLink RX5 86 "HoseSpansModel" "fewestSet" "I") (List.mem_of_getElem? (i := 2) (by decide +kernel))) (fun _ h9 => h9) rfl dX5_findFewest_81 ?_
        refine lv_ldc (v := -1000001) hx hb hown (hts (.constant RX5 74 (-1000001)) (List.mem_of_getElem? (i := 1) (by decide +kernel))) dX5_findFewest_84 ?_
        refine lv_icmp_eq (tgt := 93) hx hb dX5_findFewest_86 (by decide) (fun c_4 => ?_) (fun c_4 => ?_)
        · have hnn := c_4
          refine lv_iconst (v := 0) hx hb dX5_findFewest_93 (by decide) ?_
          refine e_z (u := ((xf, xh, ya, yb), xl)) hx hb hr (by first | rfl | exact bI_nar _) hlocks hP hD hS dX5_findFewest_94 ?_ ?_
          · rfl
          · first | exact bI_t (hasB_t hnn) | exact bI_f (hasB_f hnn)
        · have hnn := c_4
          refine lv_iconst (v := 1) hx hb dX5_findFewest_89 (by decide) ?_
          refine lv_goto (tgt := 94) hx hb dX5_findFewest_90 (by decide) ?_
          refine e_z (u := ((xf, xh, ya, yb), xl)) hx hb hr (by first | rfl | exact bI_nar _) hlocks hP hD hS dX5_findFewest_94 ?_ ?_
          · rfl
          · first | exact bI_t (hasB_t hnn) | exact bI_f (hasB_f hnn)
      · have c_3 := Int32.not_le.mp c_3
        have c_3 : s < 2 ^ n := (nI_ltI (a := s) (b := 2 ^ n) (by omega) (by omega)).mp c_3
        have jn_5 : ∀ (H : Heap) (locs : List Loc), va_P D vwCl [(m0, .inr (5, [.ref g0, .ref g1, .ref g2, .int (nI ms), .ref g3, .ref g4, .int (nI N), .int (nI ax), .ref g5, .ref g6, .int xf, .int xh, .int xl, .int (brF F G n q s), .ref g7, .ref g8])), (g0, .inl (cI, 58, .inl (rowL (n, P, F, G)))), (g5, .inl (cI, 11, .inl ya)), (g6, .inl (cI, 11, .inl yb))] H → va_D AM [(m0, .inr (5, [.ref g0, .ref g1, .ref g2, .int (nI ms), .ref g3, .ref g4, .int (nI N), .int (nI ax), .ref g5, .ref g6, .int xf, .int xh, .int xl, .int (brF F G n q s), .ref g7, .ref g8])), (g0, .inl (cI, 58, .inl (rowL (n, P, F, G)))), (g5, .inl (cI, 11, .inl ya)), (g6, .inl (cI, 11, .inl yb))] → va_S AM sM.heap H locs → ∀ (ls : Array Slot), lv_has ls 4 [(0, .ref m0), (1, .int q), (2, .int (nI s))] → W pM l eM ({ frames := 4, cells := 0, slots := 0, locals := 93 } : Room) sM mM ([.ref m0, .int q] : List Value).toArray below meth cM H locs 0 0 (MQ below (QI D (fun (r : Int32) (_ : Rs × Int32) => r = bI (hasB F G n q)) (fun (u : Rs × Int32) => [(m0, .inr (5, [.ref g0, .ref g1, .ref g2, .int (nI ms), .ref g3, .ref g4, .int (nI N), .int (nI ax), .ref g5, .ref g6, .int u.1.1, .int u.1.2.1, .int u.2, .int (brF F G n q (2 ^ n)), .ref g7, .ref g8])), (g0, .inl (cI, 58, .inl (rowL (n, P, F, G)))), (g5, .inl (cI, 11, .inl u.1.2.2.1)), (g6, .inl (cI, 11, .inl u.1.2.2.2))]) AM) ([.ref m0, .int q] : List Value).toArray sM 0 0 AM) (F0 mM 48 ls [.int (bI (fwB F G n q s))]) := by
          intro  H locs hP hD hS ls hl
          refine lv_istore_n (lv' := [(3, .int (bI (fwB F G n q s))), (0, .ref m0), (1, .int q), (2, .int (nI s))]) hx hb dX5_findFewest_48 rfl hl (by decide) rfl (fun ls hl => ?_)
          refine lv_aload_n hx hb dX5_findFewest_49 rfl (lv_at hl 1 rfl) ?_
          refine lv_iload_n hx hb dX5_findFewest_50 rfl (lv_at hl 0 rfl) ?_
          refine lv_if_eq (tgt := 67) hx hb dX5_findFewest_51 (by decide) (fun c_6 => ?_) (fun c_6 => ?_)
          · have c_6 := bI_0.mp c_6
            have hfw := c_6
            refine lv_aload_n hx hb dX5_findFewest_67 rfl (lv_at hl 1 rfl) ?_
            refine va_get (D := D) (ci := 5) (v := .int (brF F G n q s)) (C := RX5) (T := TX5) (N := 16) hx hb hts in_X5_findFewest_5 hown hK hP 0 rfl rfl 13 (by decide) (hts (.fieldLink RX5 86 "HoseSpansModel" "fewestSet" "I") (List.mem_of_getElem? (i := 2) (by decide +kernel))) (fun _ h9 => h9) rfl dX5_findFewest_68 ?_
            refine e_n (y := brF F G n q (s + 1)) (by first | exact brF_t hfw hmt | exact brF_f1 hfw | exact brF_f2 hmt) ?_
            refine va_put (D := D) (ci := 5) (v := .int (brF F G n q (s + 1))) (ty := .int) (C := RX5) (T := TX5) (N := 16) hx hb hts in_X5_findFewest_5 tyX5 tyX5_ok nmX5 hown hK hP hD hS 0 rfl rfl 13 (by decide) (hts (.fieldLink RX5 86 "HoseSpansModel" "fewestSet" "I") (List.mem_of_getElem? (i := 2) (by decide +kernel))) (fun _ h9 => h9) rfl (by decide +kernel) rfl rfl (Nat.le_of_ble_eq_true rfl) dX5_findFewest_71 (fun H locs hP hD hS => ?_)
            have hP : va_P D vwCl [(m0, .inr (5, [.ref g0, .ref g1, .ref g2, .int (nI ms), .ref g3, .ref g4, .int (nI N), .int (nI ax), .ref g5, .ref g6, .int xf, .int xh, .int xl, .int (brF F G n q (s + 1)), .ref g7, .ref g8])), (g0, .inl (cI, 58, .inl (rowL (n, P, F, G)))), (g5, .inl (cI, 11, .inl ya)), (g6, .inl (cI, 11, .inl yb))] H := hP
            have hD : va_D AM [(m0, .inr (5, [.ref g0, .ref g1, .ref g2, .int (nI ms), .ref g3, .ref g4, .int (nI N), .int (nI ax), .ref g5, .ref g6, .int xf, .int xh, .int xl, .int (brF F G n q (s + 1)), .ref g7, .ref g8])), (g0, .inl (cI, 58, .inl (rowL (n, P, F, G)))), (g5, .inl (cI, 11, .inl ya)), (g6, .inl (cI, 11, .inl yb))] := hD
            refine lv_iinc (v := nI (s + 1)) (lv' := [(2, .int (nI (s + 1))), (3, .int (bI (fwB F G n q s))), (0, .ref m0), (1, .int q)]) hx hb dX5_findFewest_74 hl (k := 3) rfl (nI_add s 1) (by decide) rfl (fun ls hl => ?_)
            refine lv_goto (tgt := 8) hx hb dX5_findFewest_77 (by decide) ?_
            have hl9 : lv_has ls 4 [(0, .ref m0), (1, .int q), (2, .int (nI (s + 1)))] := lv_sub hl [2, 3, 0] rfl
            exact ih_2 (s + 1) xf xh xl ya yb (by first | assumption | omega | exact okFacts.sort (by assumption) (by omega) | exact ⟨s, by omega, rfl⟩ | exact brF_pump (by omega) (by assumption)) (by omega) H locs hP hD hS ls hl9
          · have c_6 := bI_n0.mp c_6
            have hfw := c_6
            refine lv_aload_n hx hb dX5_findFewest_54 rfl (lv_at hl 1 rfl) ?_
            refine lv_iload_n hx hb dX5_findFewest_55 rfl (lv_at hl 2 rfl) ?_
            refine lv_iload_n hx hb dX5_findFewest_56 rfl (lv_at hl 3 rfl) ?_
            refine k_i (va_runV (As := [.int q, .int (nI s)]) (rest := [.ref m0]) ⟨hx, hb, hml, hown, hts⟩ (c_X5_goRun l D cI cB cO H.size m0 g0 g1 g2 g3 g4 g5 g6 g7 g8 ms N ax xf xh xl (brF F G n q s) n P F G ya yb q s (by first | assumption | omega | exact okFacts.sort (by assumption) (by omega) | exact ⟨s, by omega, rfl⟩ | exact brF_pump (by omega) (by assumption)) (by first | assumption | omega | exact okFacts.sort (by assumption) (by omega) | exact ⟨s, by omega, rfl⟩ | exact brF_pump (by omega) (by assumption)) (by first | assumption | omega | exact okFacts.sort (by assumption) (by omega) | exact ⟨s, by omega, rfl⟩ | exact brF_pump (by omega) (by assumption))) (cwV 2 hts gX5_findFewest_X5_goRun rfl rfl rfl (by decide +kernel) ⟨Nat.le_of_ble_eq_true rfl, Nat.le_of_ble_eq_true rfl⟩) (preV_of hK hP hD hS hA hSt [0, 1, 2, 3] (by decide) rfl 0 (ci := 5) rfl rfl) rfl rfl hl.1 rfl (lv_room (Nat.le_of_ble_eq_true rfl)) dX5_findFewest_57 ⟨Nat.le_of_ble_eq_true rfl, Nat.le_of_ble_eq_true rfl⟩) hP hD hS hA [0, 1, 2, 3] [] [0, 1, 2, 3] [] (fun (u_7 : Unit) => [(m0, .inr (5, [.ref g0, .ref g1, .ref g2, .int (nI ms), .ref g3, .ref g4, .int (nI N), .int (nI ax), .ref g5, .ref g6, .int ((runF F G n q s).1), .int ((runF F G n q s).2.1), .int ((runF F G n q s).2.2.2 n), .int (brF F G n q s), .ref g7, .ref g8])), (g0, .inl (cI, 58, .inl (rowL (n, P, F, G)))), (g5, .inl (cI, 11, .inl ((runF F G n q s).2.2.1))), (g6, .inl (cI, 11, .inl ((runF F G n q s).2.2.2)))]) rfl rfl (by decide) (by decide) (by decide) (fun _ => rfl) (fun r_7 u_7 H locs q_7 hP hD hS => ?_)
            obtain rfl : r_7 = bI (metB F G n q s) := q_7
            refine lv_if_eq (tgt := 67) hx hb dX5_findFewest_60 (by decide) (fun c_8 => ?_) (fun c_8 => ?_)
            · have c_8 := bI_0.mp c_8
              have hmt := c_8
              refine lv_aload_n hx hb dX5_findFewest_67 rfl (lv_at hl 1 rfl) ?_
              refine va_get (D := D) (ci := 5) (v := .int (brF F G n q s)) (C := RX5) (T := TX5) (N := 16) hx hb hts in_X5_findFewest_5 hown hK hP 0 rfl rfl 13 (by decide) (hts (.fieldLink RX5 86 "HoseSpansModel" "fewestSet" "I") (List.mem_of_getElem? (i := 2) (by decide +kernel))) (fun _ h9 => h9) rfl dX5_findFewest_68 ?_
              refine e_n (y := brF F G n q (s + 1)) (by first | exact brF_t hfw hmt | exact brF_f1 hfw | exact brF_f2 hmt) ?_
              refine va_put (D := D) (ci := 5) (v := .int (brF F G n q (s + 1))) (ty := .int) (C := RX5) (T := TX5) (N := 16) hx hb hts in_X5_findFewest_5 tyX5 tyX5_ok nmX5 hown hK hP hD hS 0 rfl rfl 13 (by decide) (hts (.fieldLink RX5 86 "HoseSpansModel" "fewestSet" "I") (List.mem_of_getElem? (i := 2) (by decide +kernel))) (fun _ h9 => h9) rfl (by decide +kernel) rfl rfl (Nat.le_of_ble_eq_true rfl) dX5_findFewest_71 (fun H locs hP hD hS => ?_)
              have hP : va_P D vwCl [(m0, .inr (5, [.ref g0, .ref g1, .ref g2, .int (nI ms), .ref g3, .ref g4, .int (nI N), .int (nI ax), .ref g5, .ref g6, .int ((runF F G n q s).1), .int ((runF F G n q s).2.1), .int ((runF F G n q s).2.2.2 n), .int (brF F G n q (s + 1)), .ref g7, .ref g8])), (g0, .inl (cI, 58, .inl (rowL (n, P, F, G)))), (g5, .inl (cI, 11, .inl ((runF F G n q s).2.2.1))), (g6, .inl (cI, 11, .inl ((runF F G n q s).2.2.2)))] H := hP
              have hD : va_D AM [(m0, .inr (5, [.ref g0, .ref g1, .ref g2, .int (nI ms), .ref g3, .ref g4, .int (nI N), .int (nI ax), .ref g5, .ref g6, .int ((runF F G n q s).1), .int ((runF F G n q s).2.1), .int ((runF F G n q s).2.2.2 n), .int (brF F G n q (s + 1)), .ref g7, .ref g8])), (g0, .inl (cI, 58, .inl (rowL (n, P, F, G)))), (g5, .inl (cI, 11, .inl ((runF F G n q s).2.2.1))), (g6, .inl (cI, 11, .inl ((runF F G n q s).2.2.2)))] := hD
              refine lv_iinc (v := nI (s + 1)) (lv' := [(2, .int (nI (s + 1))), (3, .int (bI (fwB F G n q s))), (0, .ref m0), (1, .int q)]) hx hb dX5_findFewest_74 hl (k := 3) rfl (nI_add s 1) (by decide) rfl (fun ls hl => ?_)
              refine lv_goto (tgt := 8) hx hb dX5_findFewest_77 (by decide) ?_
              have hl9 : lv_has ls 4 [(0, .ref m0), (1, .int q), (2, .int (nI (s + 1)))] := lv_sub hl [2, 3, 0] rfl
              exact ih_2 (s + 1) ((runF F G n q s).1) ((runF F G n q s).2.1) ((runF F G n q s).2.2.2 n) ((runF F G n q s).2.2.1) ((runF F G n q s).2.2.2) (by first | assumption | omega | exact okFacts.sort (by assumption) (by omega) | exact ⟨s, by omega, rfl⟩ | exact brF_pump (by omega) (by assumption)) (by omega) H locs hP hD hS ls hl9
            · have c_8 := bI_n0.mp c_8
              have hmt := c_8
              refine lv_iload_n hx hb dX5_findFewest_63 rfl (lv_at hl 3 rfl) ?_
              refine lv_goto (tgt := 71) hx hb dX5_findFewest_64 (by decide) ?_
              refine e_n (y := brF F G n q (s + 1)) (by first | exact brF_t hfw hmt | exact brF_f1 hfw | exact brF_f2 hmt) ?_
              refine va_put (D := D) (ci := 5) (v := .int (brF F G n q (s + 1))) (ty := .int) (C := RX5) (T := TX5) (N := 16) hx hb hts in_X5_findFewest_5 tyX5 tyX5_ok nmX5 hown hK hP hD hS 0 rfl rfl 13 (by decide) (hts (.fieldLink RX5 86 "HoseSpansModel" "fewestSet" "I") (List.mem_of_getElem? (i := 2) (by decide +kernel))) (fun _ h9 => h9) rfl (by decide +kernel) rfl rfl (Nat.le_of_ble_eq_true rfl) dX5_findFewest_71 (fun H locs hP hD hS => ?_)
              have hP : va_P D vwCl [(m0, .inr (5, [.ref g0, .ref g1, .ref g2, .int (nI ms), .ref g3, .ref g4, .int (nI N), .int (nI ax), .ref g5, .ref g6, .int ((runF F G n q s).1), .int ((runF F G n q s).2.1), .int ((runF F G n q s).2.2.2 n), .int (brF F G n q (s + 1)), .ref g7, .ref g8])), (g0, .inl (cI, 58, .inl (rowL (n, P, F, G)))), (g5, .inl (cI, 11, .inl ((runF F G n q s).2.2.1))), (g6, .inl (cI, 11, .inl ((runF F G n q s).2.2.2)))] H := hP
              have hD : va_D AM [(m0, .inr (5, [.ref g0, .ref g1, .ref g2, .int (nI ms), .ref g3, .ref g4, .int (nI N), .int (nI ax), .ref g5, .ref g6, .int ((runF F G n q s).1), .int ((runF F G n q s).2.1), .int ((runF F G n q s).2.2.2 n), .int (brF F G n q (s + 1)), .ref g7, .ref g8])), (g0, .inl (cI, 58, .inl (rowL (n, P, F, G)))), (g5, .inl (cI, 11, .inl ((runF F G n q s).2.2.1))), (g6, .inl (cI, 11, .inl ((runF F G n q s).2.2.2)))] := hD
              refine lv_iinc (v := nI (s + 1)) (lv' := [(2, .int (nI (s + 1))), (3, .int (bI (fwB F G n q s))), (0, .ref m0), (1, .int q)]) hx hb dX5_findFewest_74 hl (k := 3) rfl (nI_add s 1) (by decide) rfl (fun ls hl => ?_)
              refine lv_goto (tgt := 8) hx hb dX5_findFewest_77 (by decide) ?_
              have hl9 : lv_has ls 4 [(0, .ref m0), (1, .int q), (2, .int (nI (s + 1)))] := lv_sub hl [2, 3, 0] rfl
              exact ih_2 (s + 1) ((runF F G n q s).1) ((runF F G n q s).2.1) ((runF F G n q s).2.2.2 n) ((runF F G n q s).2.2.1) ((runF F G n q s).2.2.2) (by first | assumption | omega | exact okFacts.sort (by assumption) (by omega) | exact ⟨s, by omega, rfl⟩ | exact brF_pump (by omega) (by assumption)) (by omega) H locs hP hD hS ls hl9
        refine lv_aload_n hx hb dX5_findFewest_20 rfl (lv_at hl 0 rfl) ?_
        refine va_get (D := D) (ci := 5) (v := .int (brF F G n q s)) (C := RX5) (T := TX5) (N := 16) hx hb hts in_X5_findFewest_5 hown hK hP 0 rfl rfl 13 (by decide) (hts (.fieldLink RX5 86 "HoseSpansModel" "fewestSet" "I") (List.mem_of_getElem? (i := 2) (by decide +kernel))) (fun _ h9 => h9) rfl dX5_findFewest_21 ?_
        refine lv_ldc (v := -1000001) hx hb hown (hts (.constant RX5 74 (-1000001)) (List.mem_of_getElem? (i := 1) (by decide +kernel))) dX5_findFewest_24 ?_
        refine lv_icmp_eq (tgt := 43) hx hb dX5_findFewest_26 (by decide) (fun c_9 => ?_) (fun c_9 => ?_)
        · have hfn := c_9
          refine lv_iconst (v := 1) hx hb dX5_findFewest_43 (by decide) ?_
          refine lv_goto (tgt := 48) hx hb dX5_findFewest_44 (by decide) ?_
          refine e_n (y := bI (fwB F G n q s)) (by first | exact bI_t (fwB_1 hfn) | exact bI_t (fwB_2 hlt) | exact bI_f (fwB_0 hfn hlt)) ?_
          exact jn_5  H locs hP hD hS ls (lv_sub hl [0, 1, 2] rfl)
        · have hfn := c_9
          refine lv_iload_n hx hb dX5_findFewest_29 rfl (lv_at hl 2 rfl) ?_
          refine k_i (va_runS (As := [.int (nI s)]) (rest := []) ⟨hx, hb, hml, hown, hts⟩ (c_X5_ones l D cI cB cO H.size (nI s) (by exact ⟨s, by omega, rfl⟩)) (va_cwS 1 hts gX5_findFewest_X5_ones rfl rfl rfl (by decide +kernel) ⟨Nat.le_of_ble_eq_true rfl, Nat.le_of_ble_eq_true rfl⟩) (preS_of hK hP hD hS hA hSt [] (by decide) rfl) rfl rfl hl.1 rfl (lv_room (Nat.le_of_ble_eq_true rfl)) dX5_findFewest_30 ⟨Nat.le_of_ble_eq_true rfl, Nat.le_of_ble_eq_true rfl⟩) hP hD hS hA [] [0, 1, 2, 3] [0, 1, 2, 3] [(m0, .inr (5, [.ref g0, .ref g1, .ref g2, .int (nI ms), .ref g3, .ref g4, .int (nI N), .int (nI ax), .ref g5, .ref g6, .int xf, .int xh, .int xl, .int (brF F G n q s), .ref g7, .ref g8])), (g0, .inl (cI, 58, .inl (rowL (n, P, F, G)))), (g5, .inl (cI, 11, .inl ya)), (g6, .inl (cI, 11, .inl yb))] (fun (u_10 : Unit) => [(m0, .inr (5, [.ref g0, .ref g1, .ref g2, .int (nI ms), .ref g3, .ref g4, .int (nI N), .int (nI ax), .ref g5, .ref g6, .int xf, .int xh, .int xl, .int (brF F G n q s), .ref g7, .ref g8])), (g0, .inl (cI, 58, .inl (rowL (n, P, F, G)))), (g5, .inl (cI, 11, .inl ya)), (g6, .inl (cI, 11, .inl yb))]) rfl rfl (by decide) (by decide) (by decide) (fun _ => rfl) (fun r_10 u_10 H locs q_10 hP hD hS => ?_)
          obtain rfl : r_10 = bcI (nI s) := q_10
          refine lv_aload_n hx hb dX5_findFewest_33 rfl (lv_at hl 0 rfl) ?_
          refine va_get (D := D) (ci := 5) (v := .int (brF F G n q s)) (C := RX5) (T := TX5) (N := 16) hx hb hts in_X5_findFewest_5 hown hK hP 0 rfl rfl 13 (by decide) (hts (.fieldLink RX5 86 "HoseSpansModel" "fewestSet" "I") (List.mem_of_getElem? (i := 2) (by decide +kernel))) (fun _ h9 => h9) rfl dX5_findFewest_34 ?_
          refine k_i (va_runS (As := [.int (brF F G n q s)]) (rest := [.int (bcI (nI s))]) ⟨hx, hb, hml, hown, hts⟩ (c_X5_ones l D cI cB cO H.size (brF F G n q s) (by exact brF_pump (by omega) hfn)) (va_cwS 1 hts gX5_findFewest_X5_ones rfl rfl rfl (by decide +kernel) ⟨Nat.le_of_ble_eq_true rfl, Nat.le_of_ble_eq_true rfl⟩) (preS_of hK hP hD hS hA hSt [] (by decide) rfl) rfl rfl hl.1 rfl (lv_room (Nat.le_of_ble_eq_true rfl)) dX5_findFewest_37 ⟨Nat.le_of_ble_eq_true rfl, Nat.le_of_ble_eq_true rfl⟩) hP hD hS hA [] [0, 1, 2, 3] [0, 1, 2, 3] [(m0, .inr (5, [.ref g0, .ref g1, .ref g2, .int (nI ms), .ref g3, .ref g4, .int (nI N), .int (nI ax), .ref g5, .ref g6, .int xf, .int xh, .int xl, .int (brF F G n q s), .ref g7, .ref g8])), (g0, .inl (cI, 58, .inl (rowL (n, P, F, G)))), (g5, .inl (cI, 11, .inl ya)), (g6, .inl (cI, 11, .inl yb))] (fun (u_11 : Unit) => [(m0, .inr (5, [.ref g0, .ref g1, .ref g2, .int (nI ms), .ref g3, .ref g4, .int (nI N), .int (nI ax), .ref g5, .ref g6, .int xf, .int xh, .int xl, .int (brF F G n q s), .ref g7, .ref g8])), (g0, .inl (cI, 58, .inl (rowL (n, P, F, G)))), (g5, .inl (cI, 11, .inl ya)), (g6, .inl (cI, 11, .inl yb))]) rfl rfl (by decide) (by decide) (by decide) (fun _ => rfl) (fun r_11 u_11 H locs q_11 hP hD hS => ?_)
          obtain rfl : r_11 = bcI (brF F G n q s) := q_11
          refine lv_icmp_ge (tgt := 47) hx hb dX5_findFewest_40 (by decide) (fun c_12 => ?_) (fun c_12 => ?_)
          · have c_12 := Int32.not_lt.mpr c_12
            have hlt := c_12
            refine lv_iconst (v := 0) hx hb dX5_findFewest_47 (by decide) ?_
            refine e_n (y := bI (fwB F G n q s)) (by first | exact bI_t (fwB_1 hfn) | exact bI_t (fwB_2 hlt) | exact bI_f (fwB_0 hfn hlt)) ?_
            exact jn_5  H locs hP hD hS ls (lv_sub hl [0, 1, 2] rfl)
          · have c_12 := Int32.not_le.mp c_12
            have hlt := c_12
            refine lv_iconst (v := 1) hx hb dX5_findFewest_43 (by decide) ?_
            refine lv_goto (tgt := 48) hx hb dX5_findFewest_44 (by decide) ?_
            refine e_n (y := bI (fwB F G n q s)) (by first | exact bI_t (fwB_1 hfn) | exact bI_t (fwB_2 hlt) | exact bI_f (fwB_0 hfn hlt)) ?_
            exact jn_5  H locs hP hD hS ls (lv_sub hl [0, 1, 2] rfl)
  rw [show (.int (-1000001) : Value) = .int (brF F G n q 0) from rfl] at hP hD
  have hl9 : lv_has ls 4 [(0, .ref m0), (1, .int q), (2, .int 0)] := lv_sub hl [1, 2, 0] rfl
  rw [show ([(0, .ref m0), (1, .int q), (2, .int 0)] : List (Nat × Value)) = [(0, .ref m0), (1, .int q), (2, .int (nI 0))] from rfl] at hl9
  exact lp_1 ((2 ^ n - 0) + 1) 0 fa ho la a b (by exact Nat.zero_le _) (Nat.lt_succ_self _) H locs hP hD hS ls hl9
theorem in_X5_fewestOf_5 : ∀ w ∈ wsX50, w ∈ wsX5_fewestOf := fun _ h => List.mem_cons_of_mem _ (List.mem_append_right _ h)
set_option maxHeartbeats 4000000 in
set_option maxRecDepth 100000 in
theorem c_X5_fewestOf (l : Launch) (D : va_G) (cI cB cO : ClassId) (sz : Nat) (m0 g0 g1 g2 g3 g4 g5 g6 g7 g8 ms N ax : Nat) (fa ho la fs : Int32) (n : Nat) (P : Int32) (F G : Nat → Int32) (a b : Nat → Int32) (q w : Int32) (hn : n ≤ 10) (hf : okFacts F) : CI l yX5_fewestOf wsX5_fewestOf ({ frames := 5, cells := 0, slots := 0, locals := 116 } : Room) D (tyL cI cB cO) [.ref m0, .int q, .int w] [(m0, .inr (5, [.ref g0, .ref g1, .ref g2, .int (nI ms), .ref g3, .ref g4, .int (nI N), .int (nI ax), .ref g5, .ref g6, .int fa, .int ho, .int la, .int fs, .ref g7, .ref g8])), (g0, .inl (cI, 58, .inl (rowL (n, P, F, G)))), (g5, .inl (cI, 11, .inl a)), (g6, .inl (cI, 11, .inl b))] sz (fun (r : Int32) (_ : Rs × Int32) => r = few2 F G n q w) (fun (u : Rs × Int32) => [(m0, .inr (5, [.ref g0, .ref g1, .ref g2, .int (nI ms), .ref g3, .ref g4, .int (nI N), .int (nI ax), .ref g5, .ref g6, .int u.1.1, .int u.1.2.1, .int u.2, .int (brF F G n q (2 ^ n)), .ref g7, .ref g8])), (g0, .inl (cI, 58, .inl (rowL (n, P, F, G)))), (g5, .inl (cI, 11, .inl u.1.2.2.1)), (g6, .inl (cI, 11, .inl u.1.2.2.2))]) 0 0 := by
  refine ct_of (cc := cX5_fewestOf) (maxL := 4) (ret := some .int) (own := RX5) (Qc := QI D (fun (r : Int32) (_ : Rs × Int32) => r = few2 F G n q w) (fun (u : Rs × Int32) => [(m0, .inr (5, [.ref g0, .ref g1, .ref g2, .int (nI ms), .ref g3, .ref g4, .int (nI N), .int (nI ax), .ref g5, .ref g6, .int u.1.1, .int u.1.2.1, .int u.2, .int (brF F G n q (2 ^ n)), .ref g7, .ref g8])), (g0, .inl (cI, 58, .inl (rowL (n, P, F, G)))), (g5, .inl (cI, 11, .inl u.1.2.2.1)), (g6, .inl (cI, 11, .inl u.1.2.2.2))])) (by decide) rfl rfl (Nat.le_of_ble_eq_true rfl) ?_
  intro pM eM sM mM below meth cM AM ls H locs hx hb hr hts hown hlocks hml hin hK hP hD hS hA hSt hl
  have hl : lv_has ls 4 [(0, .ref m0), (1, .int q), (2, .int w)] := hl
  have hpw := pow10 hn
  refine lv_aload_n hx hb dX5_fewestOf_0 rfl (lv_at hl 0 rfl) ?_
  refine lv_iload_n hx hb dX5_fewestOf_1 rfl (lv_at hl 1 rfl) ?_
  refine k_i (va_runV (As := [.int q]) (rest := []) ⟨hx, hb, hml, hown, hts⟩ (c_X5_findFewest l D cI cB cO H.size m0 g0 g1 g2 g3 g4 g5 g6 g7 g8 ms N ax fa ho la fs n P F G a b q (by first | assumption | omega | exact okFacts.sort (by assumption) (by omega)) (by first | assumption | omega | exact okFacts.sort (by assumption) (by omega))) (cwV 1 hts gX5_fewestOf_X5_findFewest rfl rfl rfl (by decide +kernel) ⟨Nat.le_of_ble_eq_true rfl, Nat.le_of_ble_eq_true rfl⟩) (preV_of hK hP hD hS hA hSt [0, 1, 2, 3] (by decide) rfl 0 (ci := 5) rfl rfl) rfl rfl hl.1 rfl (lv_room (Nat.le_of_ble_eq_true rfl)) dX5_fewestOf_2 ⟨Nat.le_of_ble_eq_true rfl, Nat.le_of_ble_eq_true rfl⟩) hP hD hS hA [0, 1, 2, 3] [] [0, 1, 2, 3] [] (fun (u_1 : Rs × Int32) => [(m0, .inr (5, [.ref g0, .ref g1, .ref g2, .int (nI ms), .ref g3, .ref g4, .int (nI N), .int (nI ax), .ref g5, .ref g6, .int u_1.1.1, .int u_1.1.2.1, .int u_1.2, .int (brF F G n q (2 ^ n)), .ref g7, .ref g8])), (g0, .inl (cI, 58, .inl (rowL (n, P, F, G)))), (g5, .inl (cI, 11, .inl u_1.1.2.2.1)), (g6, .inl (cI, 11, .inl u_1.1.2.2.2))]) rfl rfl (by decide) (by decide) (by decide) (fun _ => rfl) (fun r_1 u_1 H locs q_1 hP hD hS => ?_)
  obtain rfl : r_1 = bI (hasB F G n q) := q_1
  refine lv_istore_n (lv' := [(3, .int (bI (hasB F G n q))), (0, .ref m0), (1, .int q), (2, .int w)]) hx hb dX5_fewestOf_5 rfl hl (by decide) rfl (fun ls hl => ?_)
  refine lv_iload_n hx hb dX5_fewestOf_6 rfl (lv_at hl 0 rfl) ?_
  refine lv_if_ne (tgt := 15) hx hb dX5_fewestOf_7 (by decide) (fun c_2 => ?_) (fun c_2 => ?_)
  · have c_2 := bI_n0.mp c_2
    have hhb := c_2
    refine lv_iload_n hx hb dX5_fewestOf_15 rfl (lv_at hl 3 rfl) ?_
    refine lv_if_ne (tgt := 29) hx hb dX5_fewestOf_16 (by decide) (fun c_3 => ?_) (fun c_3 => ?_)
    · have hw0 := c_3
      refine lv_aload_n hx hb dX5_fewestOf_29 rfl (lv_at hl 1 rfl) ?_
      refine va_get (D := D) (ci := 5) (v := .int (brF F G n q (2 ^ n))) (C := RX5) (T := TX5) (N := 16) hx hb hts in_X5_fewestOf_5 hown hK hP 0 rfl rfl 13 (by decide) (hts (.fieldLink RX5 86 "HoseSpansModel" "fewestSet" "I") (List.mem_of_getElem? (i := 2) (by decide +kernel))) (fun _ h9 => h9) rfl dX5_fewestOf_30 ?_
      refine e_i (u := ((u_1.1.1, u_1.1.2.1, u_1.1.2.2.1, u_1.1.2.2.2), u_1.2)) hx hb hr hlocks hP hD hS dX5_fewestOf_33 ?_ ?_
      · rfl
      · unfold few2; first | rw [if_pos (hasB_e hhb)] | rw [if_neg (hasB_n hhb), if_pos hw0] | rw [if_neg (hasB_n hhb), if_neg hw0]
    · have hw0 := c_3
      refine lv_aload_n hx hb dX5_fewestOf_19 rfl (lv_at hl 1 rfl) ?_
      refine va_get (D := D) (ci := 5) (v := .int (brF F G n q (2 ^ n))) (C := RX5) (T := TX5) (N := 16) hx hb hts in_X5_fewestOf_5 hown hK hP 0 rfl rfl 13 (by decide) (hts (.fieldLink RX5 86 "HoseSpansModel" "fewestSet" "I") (List.mem_of_getElem? (i := 2) (by decide +kernel))) (fun _ h9 => h9) rfl dX5_fewestOf_20 ?_
      refine k_i (va_runS (As := [.int (brF F G n q (2 ^ n))]) (rest := []) ⟨hx, hb, hml, hown, hts⟩ (c_X5_ones l D cI cB cO H.size (brF F G n q (2 ^ n)) (by exact brF_pump (by omega) (hasB_n hhb))) (va_cwS 1 hts gX5_fewestOf_X5_ones rfl rfl rfl (by decide +kernel) ⟨Nat.le_of_ble_eq_true rfl, Nat.le_of_ble_eq_true rfl⟩) (preS_of hK hP hD hS hA hSt [] (by decide) rfl) rfl rfl hl.1 rfl (lv_room (Nat.le_of_ble_eq_true rfl)) dX5_fewestOf_23 ⟨Nat.le_of_ble_eq_true rfl, Nat.le_of_ble_eq_true rfl⟩) hP hD hS hA [] [0, 1, 2, 3] [0, 1, 2, 3] [(m0, .inr (5, [.ref g0, .ref g1, .ref g2, .int (nI ms), .ref g3, .ref g4, .int (nI N), .int (nI ax), .ref g5, .ref g6, .int u_1.1.1, .int u_1.1.2.1, .int u_1.2, .int (brF F G n q (2 ^ n)), .ref g7, .ref g8])), (g0, .inl (cI, 58, .inl (rowL (n, P, F, G)))), (g5, .inl (cI, 11, .inl u_1.1.2.2.1)), (g6, .inl (cI, 11, .inl u_1.1.2.2.2))] (fun (u_4 : Unit) => [(m0, .inr (5, [.ref g0, .ref g1, .ref g2, .int (nI ms), .ref g3, .ref g4, .int (nI N), .int (nI ax), .ref g5, .ref g6, .int u_1.1.1, .int u_1.1.2.1, .int u_1.2, .int (brF F G n q (2 ^ n)), .ref g7, .ref g8])), (g0, .inl (cI, 58, .inl (rowL (n, P, F, G)))), (g5, .inl (cI, 11, .inl u_1.1.2.2.1)), (g6, .inl (cI, 11, .inl u_1.1.2.2.2))]) rfl rfl (by decide) (by decide) (by decide) (fun _ => rfl) (fun r_4 u_4 H locs q_4 hP hD hS => ?_)
      obtain rfl : r_4 = bcI (brF F G n q (2 ^ n)) := q_4
      refine lv_goto (tgt := 33) hx hb dX5_fewestOf_26 (by decide) ?_
      refine e_i (u := ((u_1.1.1, u_1.1.2.1, u_1.1.2.2.1, u_1.1.2.2.2), u_1.2)) hx hb hr hlocks hP hD hS dX5_fewestOf_33 ?_ ?_
      · rfl
      · unfold few2; first | rw [if_pos (hasB_e hhb)] | rw [if_neg (hasB_n hhb), if_pos hw0] | rw [if_neg (hasB_n hhb), if_neg hw0]
  · have c_2 := bI_0.mp c_2
    have hhb := c_2
    refine lv_ldc (v := -1000001) hx hb hown (hts (.constant RX5 74 (-1000001)) (List.mem_of_getElem? (i := 1) (by decide +kernel))) dX5_fewestOf_10 ?_
    refine lv_goto (tgt := 33) hx hb dX5_fewestOf_12 (by decide) ?_
    refine e_i (u := ((u_1.1.1, u_1.1.2.1, u_1.1.2.2.1, u_1.1.2.2.2), u_1.2)) hx hb hr hlocks hP hD hS dX5_fewestOf_33 ?_ ?_
    · rfl
    · unfold few2; first | rw [if_pos (hasB_e hhb)] | rw [if_neg (hasB_n hhb), if_pos hw0] | rw [if_neg (hasB_n hhb), if_neg hw0]
theorem in_X5_mostNow_5 : ∀ w ∈ wsX50, w ∈ wsX5_mostNow := fun _ h => List.mem_cons_of_mem _ (List.mem_append_right _ h)
set_option maxHeartbeats 4000000 in
set_option maxRecDepth 100000 in
theorem c_X5_mostNow (l : Launch) (D : va_G) (cI cB cO : ClassId) (sz : Nat) (m0 g0 g1 g2 g3 g4 g5 g6 g7 g8 ms N ax : Nat) (fa ho la fs : Int32) (n S : Nat) (F G : Nat → Int32) (a b : Nat → Int32) (hn : n ≤ 10) (hf : okFacts F) (hS9 : S < 2048) : CI l yX5_mostNow wsX5_mostNow ({ frames := 4, cells := 0, slots := 0, locals := 93 } : Room) D (tyL cI cB cO) [.ref m0] [(m0, .inr (5, [.ref g0, .ref g1, .ref g2, .int (nI ms), .ref g3, .ref g4, .int (nI N), .int (nI ax), .ref g5, .ref g6, .int fa, .int ho, .int la, .int fs, .ref g7, .ref g8])), (g0, .inl (cI, 58, .inl (rowL (n, nI S, F, G)))), (g5, .inl (cI, 11, .inl a)), (g6, .inl (cI, 11, .inl b))] sz (fun (r : Int32) (_ : Rs × Int32) => r = mostF F G n S) (fun (u : Rs × Int32) => [(m0, .inr (5, [.ref g0, .ref g1, .ref g2, .int (nI ms), .ref g3, .ref g4, .int (nI N), .int (nI ax), .ref g5, .ref g6, .int u.1.1, .int u.1.2.1, .int u.2, .int fs, .ref g7, .ref g8])), (g0, .inl (cI, 58, .inl (rowL (n, nI S, F, G)))), (g5, .inl (cI, 11, .inl u.1.2.2.1)), (g6, .inl (cI, 11, .inl u.1.2.2.2))]) 0 0 := by
  refine ct_of (cc := cX5_mostNow) (maxL := 3) (ret := some .int) (own := RX5) (Qc := QI D (fun (r : Int32) (_ : Rs × Int32) => r = mostF F G n S) (fun (u : Rs × Int32) => [(m0, .inr (5, [.ref g0, .ref g1, .ref g2, .int (nI ms), .ref g3, .ref g4, .int (nI N), .int (nI ax), .ref g5, .ref g6, .int u.1.1, .int u.1.2.1, .int u.2, .int fs, .ref g7, .ref g8])), (g0, .inl (cI, 58, .inl (rowL (n, nI S, F, G)))), (g5, .inl (cI, 11, .inl u.1.2.2.1)), (g6, .inl (cI, 11, .inl u.1.2.2.2))])) (by decide) rfl rfl (Nat.le_of_ble_eq_true rfl) ?_
  intro pM eM sM mM below meth cM AM ls H locs hx hb hr hts hown hlocks hml hin hK hP hD hS hA hSt hl
  have hl : lv_has ls 3 [(0, .ref m0)] := hl
  refine lv_ldc (v := -1000001) hx hb hown (hts (.constant RX5 74 (-1000001)) (List.mem_of_getElem? (i := 1) (by decide +kernel))) dX5_mostNow_0 ?_
  refine lv_istore_n (lv' := [(1, .int (-1000001)), (0, .ref m0)]) hx hb dX5_mostNow_2 rfl hl (by decide) rfl (fun ls hl => ?_)
  refine lv_iconst (v := 1) hx hb dX5_mostNow_3 (by decide) ?_
  refine lv_istore_n (lv' := [(2, .int 1), (1, .int (-1000001)), (0, .ref m0)]) hx hb dX5_mostNow_4 rfl hl (by decide) rfl (fun ls hl => ?_)
  have lp_1 : ∀ (nn : Nat) (k : Nat) (xf xh xl : Int32) (ya yb : Nat → Int32), (k ≤ 30) → (30 - k) < nn → ∀ (H : Heap) (locs : List Loc), va_P D vwCl [(m0, .inr (5, [.ref g0, .ref g1, .ref g2, .int (nI ms), .ref g3, .ref g4, .int (nI N), .int (nI ax), .ref g5, .ref g6, .int xf, .int xh, .int xl, .int fs, .ref g7, .ref g8])), (g0, .inl (cI, 58, .inl (rowL (n, nI S, F, G)))), (g5, .inl (cI, 11, .inl ya)), (g6, .inl (cI, 11, .inl yb))] H → va_D AM [(m0, .inr (5, [.ref g0, .ref g1, .ref g2, .int (nI ms), .ref g3, .ref g4, .int (nI N), .int (nI ax), .ref g5, .ref g6, .int xf, .int xh, .int xl, .int fs, .ref g7, .ref g8])), (g0, .inl (cI, 58, .inl (rowL (n, nI S, F, G)))), (g5, .inl (cI, 11, .inl ya)), (g6, .inl (cI, 11, .inl yb))] → va_S AM sM.heap H locs → ∀ (ls : Array Slot), lv_has ls 3 [(0, .ref m0), (1, .int (mostI F G n S k)), (2, .int (nI (k + 1)))] → W pM l eM ({ frames := 4, cells := 0, slots := 0, locals := 93 } : Room) sM mM ([.ref m0] : List Value).toArray below meth cM H locs 0 0 (MQ below (QI D (fun (r : Int32) (_ : Rs × Int32) => r = mostF F G n S) (fun (u : Rs × Int32) => [(m0, .inr (5, [.ref g0, .ref g1, .ref g2, .int (nI ms), .ref g3, .ref g4, .int (nI N), .int (nI ax), .ref g5, .ref g6, .int u.1.1, .int u.1.2.1, .int u.2, .int fs, .ref g7, .ref g8])), (g0, .inl (cI, 58, .inl (rowL (n, nI S, F, G)))), (g5, .inl (cI, 11, .inl u.1.2.2.1)), (g6, .inl (cI, 11, .inl u.1.2.2.2))]) AM) ([.ref m0] : List Value).toArray sM 0 0 AM) (F0 mM 5 ls []) := by
    intro nn
    induction nn with
    | zero =>
      intro k xf xh xl ya yb hk hm
      exact absurd hm (Nat.not_lt_zero _)
    | succ nn ih_2 =>
      intro k xf xh xl ya yb hk hm H locs hP hD hS ls hl
      refine lv_iload_n hx hb dX5_mostNow_5 rfl (lv_at hl 2 rfl) ?_
      refine lv_bipush (v := 30) hx hb dX5_mostNow_6 (by decide) ?_
      refine lv_icmp_gt (tgt := 37) hx hb dX5_mostNow_8 (by decide) (fun c_3 => ?_) (fun c_3 => ?_)
      · have c_3 : 10 + 20 < k + 1 := (nI_ltI (a := 30) (b := k + 1) (by decide) (by omega)).mp c_3
        obtain rfl : 30 = k := by omega
        refine lv_iload_n hx hb dX5_mostNow_37 rfl (lv_at hl 1 rfl) ?_
        refine e_i (u := ((xf, xh, ya, yb), xl)) hx hb hr hlocks hP hD hS dX5_mostNow_38 ?_ ?_
        · rfl
        · rfl
      · have c_3 : k + 1 ≤ 30 := by have h := mt (nI_ltI (a := 30) (b := k + 1) (by decide) (by omega)).mpr c_3; omega
        refine lv_aload_n hx hb dX5_mostNow_11 rfl (lv_at hl 0 rfl) ?_
        refine lv_iload_n hx hb dX5_mostNow_12 rfl (lv_at hl 2 rfl) ?_
        refine lv_aload_n hx hb dX5_mostNow_13 rfl (lv_at hl 0 rfl) ?_
        refine va_get (D := D) (ci := 5) (v := .ref g0) (C := RX5) (T := TX5) (N := 16) hx hb hts in_X5_mostNow_5 hown hK hP 0 rfl rfl 0 (by decide) (hts (.fieldLink RX5 7 "HoseSpansModel" "now" "[I") (List.mem_of_getElem? (i := 2) (by decide +kernel))) (fun _ h9 => h9) rfl dX5_mostNow_14 ?_
        refine lv_iconst (v := 1) hx hb dX5_mostNow_17 (by decide) ?_
        refine va_iald hx hb hK hP 1 0 rfl rfl (vp_in_nI (n := 1) (by decide) (by decide)) dX5_mostNow_18 ?_
        refine e_n (y := (rowL (n, nI S, F, G)) 1) (congrArg (rowL (n, nI S, F, G)) (by decide)) ?_
        refine e_n (y := nI S) rfl ?_
        refine k_i (va_runV (As := [.int (nI (k + 1)), .int (nI S)]) (rest := []) ⟨hx, hb, hml, hown, hts⟩ (c_X5_goRun l D cI cB cO H.size m0 g0 g1 g2 g3 g4 g5 g6 g7 g8 ms N ax xf xh xl fs n (nI S) F G ya yb (nI (k + 1)) S (by first | assumption | omega | exact okFacts.sort (by assumption) (by omega)) (by first | assumption | omega | exact okFacts.sort (by assumption) (by omega)) (by first | assumption | omega | exact okFacts.sort (by assumption) (by omega))) (cwV 2 hts gX5_mostNow_X5_goRun rfl rfl rfl (by decide +kernel) ⟨Nat.le_of_ble_eq_true rfl, Nat.le_of_ble_eq_true rfl⟩) (preV_of hK hP hD hS hA hSt [0, 1, 2, 3] (by decide) rfl 0 (ci := 5) rfl rfl) rfl rfl hl.1 rfl (lv_room (Nat.le_of_ble_eq_true rfl)) dX5_mostNow_19 ⟨Nat.le_of_ble_eq_true rfl, Nat.le_of_ble_eq_true rfl⟩) hP hD hS hA [0, 1, 2, 3] [] [0, 1, 2, 3] [] (fun (u_4 : Unit) => [(m0, .inr (5, [.ref g0, .ref g1, .ref g2, .int (nI ms), .ref g3, .ref g4, .int (nI N), .int (nI ax), .ref g5, .ref g6, .int ((runF F G n (nI (k + 1)) S).1), .int ((runF F G n (nI (k + 1)) S).2.1), .int ((runF F G n (nI (k + 1)) S).2.2.2 n), .int fs, .ref g7, .ref g8])), (g0, .inl (cI, 58, .inl (rowL (n, (nI S), F, G)))), (g5, .inl (cI, 11, .inl ((runF F G n (nI (k + 1)) S).2.2.1))), (g6, .inl (cI, 11, .inl ((runF F G n (nI (k + 1)) S).2.2.2)))]) rfl rfl (by decide) (by decide) (by decide) (fun _ => rfl) (fun r_4 u_4 H locs q_4 hP hD hS => ?_)
        obtain rfl : r_4 = bI (metB F G n (nI (k + 1)) S) := q_4
        refine lv_if_eq (tgt := 29) hx hb dX5_mostNow_22 (by decide) (fun c_5 => ?_) (fun c_5 => ?_)
        · have c_5 := bI_0.mp c_5
          have hmt := c_5
          refine lv_iload_n hx hb dX5_mostNow_29 rfl (lv_at hl 1 rfl) ?_
          refine e_n (y := mostI F G n S (k + 1)) (by first | exact metB_most hmt | exact metB_not hmt) ?_
          refine lv_istore_n (lv' := [(1, .int (mostI F G n S (k + 1))), (0, .ref m0), (2, .int (nI (k + 1)))]) hx hb dX5_mostNow_30 rfl hl (by decide) rfl (fun ls hl => ?_)
          refine lv_iinc (v := nI (k + 1 + 1)) (lv' := [(2, .int (nI (k + 1 + 1))), (1, .int (mostI F G n S (k + 1))), (0, .ref m0)]) hx hb dX5_mostNow_31 hl (k := 2) rfl (nI_add (k + 1) 1) (by decide) rfl (fun ls hl => ?_)
          refine lv_goto (tgt := 5) hx hb dX5_mostNow_34 (by decide) ?_
          rw [show rowL (n, (nI S), F, G) = rowL (n, nI S, F, G) from rfl] at hP hD
          have hl9 : lv_has ls 3 [(0, .ref m0), (1, .int (mostI F G n S (k + 1))), (2, .int (nI (k + 1 + 1)))] := lv_sub hl [2, 1, 0] rfl
          rw [show ([(0, .ref m0), (1, .int (mostI F G n S (k + 1))), (2, .int (nI (k + 1 + 1)))] : List (Nat × Value)) = [(0, .ref m0), (1, .int (mostI F G n S (k + 1))), (2, .int (nI ((k + 1) + 1)))] from rfl] at hl9
          exact ih_2 (k + 1) ((runF F G n (nI (k + 1)) S).1) ((runF F G n (nI (k + 1)) S).2.1) ((runF F G n (nI (k + 1)) S).2.2.2 n) ((runF F G n (nI (k + 1)) S).2.2.1) ((runF F G n (nI (k + 1)) S).2.2.2) (by first | assumption | omega | exact okFacts.sort (by assumption) (by omega)) (by omega) H locs hP hD hS ls hl9
        · have c_5 := bI_n0.mp c_5
          have hmt := c_5
          refine lv_iload_n hx hb dX5_mostNow_25 rfl (lv_at hl 2 rfl) ?_
          refine lv_goto (tgt := 30) hx hb dX5_mostNow_26 (by decide) ?_
          refine e_n (y := mostI F G n S (k + 1)) (by first | exact metB_most hmt | exact metB_not hmt) ?_
          refine lv_istore_n (lv' := [(1, .int (mostI F G n S (k + 1))), (0, .ref m0), (2, .int (nI (k + 1)))]) hx hb dX5_mostNow_30 rfl hl (by decide) rfl (fun ls hl => ?_)
          refine lv_iinc (v := nI (k + 1 + 1)) (lv' := [(2, .int (nI (k + 1 + 1))), (1, .int (mostI F G n S (k + 1))), (0, .ref m0)]) hx hb dX5_mostNow_31 hl (k := 2) rfl (nI_add (k + 1) 1) (by decide) rfl (fun ls hl => ?_)
          refine lv_goto (tgt := 5) hx hb dX5_mostNow_34 (by decide) ?_
          rw [show rowL (n, (nI S), F, G) = rowL (n, nI S, F, G) from rfl] at hP hD
          have hl9 : lv_has ls 3 [(0, .ref m0), (1, .int (mostI F G n S (k + 1))), (2, .int (nI (k + 1 + 1)))] := lv_sub hl [2, 1, 0] rfl
          rw [show ([(0, .ref m0), (1, .int (mostI F G n S (k + 1))), (2, .int (nI (k + 1 + 1)))] : List (Nat × Value)) = [(0, .ref m0), (1, .int (mostI F G n S (k + 1))), (2, .int (nI ((k + 1) + 1)))] from rfl] at hl9
          exact ih_2 (k + 1) ((runF F G n (nI (k + 1)) S).1) ((runF F G n (nI (k + 1)) S).2.1) ((runF F G n (nI (k + 1)) S).2.2.2 n) ((runF F G n (nI (k + 1)) S).2.2.1) ((runF F G n (nI (k + 1)) S).2.2.2) (by first | assumption | omega | exact okFacts.sort (by assumption) (by omega)) (by omega) H locs hP hD hS ls hl9
  have hl9 : lv_has ls 3 [(0, .ref m0), (1, .int (-1000001)), (2, .int 1)] := lv_sub hl [2, 1, 0] rfl
  rw [show ([(0, .ref m0), (1, .int (-1000001)), (2, .int 1)] : List (Nat × Value)) = [(0, .ref m0), (1, .int (mostI F G n S 0)), (2, .int (nI (0 + 1)))] from rfl] at hl9
  exact lp_1 ((30 - 0) + 1) 0 fa ho la a b (by first | assumption | omega | exact okFacts.sort (by assumption) (by omega)) (Nat.lt_succ_self _) H locs hP hD hS ls hl9
