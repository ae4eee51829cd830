theorem in_X5_skip_5 : ∀ w ∈ wsX50, w ∈ wsX5_skip := fun _ h => List.mem_cons_of_mem _ (List.mem_append_right _ h)
set_option maxHeartbeats 4000000 in
set_option maxRecDepth 100000 in
theorem c_X5_skip (l : Launch) (D : va_G) (cI cB cO : ClassId) (sz : Nat) (m0 g0 g1 g2 g3 g4 g5 g6 g7 g8 ms N ax : Nat) (fa ho la fs : Int32) (T : Nat → Int32) (hN : N ≤ 120) (ha : ax ≤ N) : CV l yX5_skip wsX5_skip ({ frames := 0, cells := 0, slots := 0, locals := 0 } : Room) D (tyL cI cB cO) [.ref m0] [(m0, .inr (5, [.ref g0, .ref g1, .ref g2, .int (nI ms), .ref g3, .ref g4, .int (nI N), .int (nI ax), .ref g5, .ref g6, .int fa, .int ho, .int la, .int fs, .ref g7, .ref g8])), (g4, .inl (cI, 120, .inl T))] sz (fun (_ : Unit) => True) (fun (u : Unit) => [(m0, .inr (5, [.ref g0, .ref g1, .ref g2, .int (nI ms), .ref g3, .ref g4, .int (nI N), .int (nI (skB T N ax)), .ref g5, .ref g6, .int fa, .int ho, .int la, .int fs, .ref g7, .ref g8])), (g4, .inl (cI, 120, .inl T))]) 0 0 := by
  refine ct_of (cc := cX5_skip) (maxL := 1) (ret := none) (own := RX5) (Qc := QV D (fun (_ : Unit) => True) (fun (u : Unit) => [(m0, .inr (5, [.ref g0, .ref g1, .ref g2, .int (nI ms), .ref g3, .ref g4, .int (nI N), .int (nI (skB T N ax)), .ref g5, .ref g6, .int fa, .int ho, .int la, .int fs, .ref g7, .ref g8])), (g4, .inl (cI, 120, .inl T))])) (by decide) rfl rfl (Nat.le_of_ble_eq_true rfl) ?_
  intro pM eM sM mM below meth cM AM ls H locs hx hb hr hts hown hlocks hml hin hK hP hD hS hA hSt hl
  have hl : lv_has ls 1 [(0, .ref m0)] := hl
  have lp_1 : ∀ (nn : Nat) (x : Nat), (x ≤ N) → (skB T N x = skB T N ax) → (N - x) < nn → ∀ (H : Heap) (locs : List Loc), va_P D vwCl [(m0, .inr (5, [.ref g0, .ref g1, .ref g2, .int (nI ms), .ref g3, .ref g4, .int (nI N), .int (nI x), .ref g5, .ref g6, .int fa, .int ho, .int la, .int fs, .ref g7, .ref g8])), (g4, .inl (cI, 120, .inl T))] H → va_D AM [(m0, .inr (5, [.ref g0, .ref g1, .ref g2, .int (nI ms), .ref g3, .ref g4, .int (nI N), .int (nI x), .ref g5, .ref g6, .int fa, .int ho, .int la, .int fs, .ref g7, .ref g8])), (g4, .inl (cI, 120, .inl T))] → va_S AM sM.heap H locs → ∀ (ls : Array Slot), lv_has ls 1 [(0, .ref m0)] → W pM l eM ({ frames := 0, cells := 0, slots := 0, locals := 0 } : Room) sM mM ([.ref m0] : List Value).toArray below meth cM H locs 0 0 (MQ below (QV D (fun (_ : Unit) => True) (fun (u : Unit) => [(m0, .inr (5, [.ref g0, .ref g1, .ref g2, .int (nI ms), .ref g3, .ref g4, .int (nI N), .int (nI (skB T N ax)), .ref g5, .ref g6, .int fa, .int ho, .int la, .int fs, .ref g7, .ref g8])), (g4, .inl (cI, 120, .inl T))]) AM) ([.ref m0] : List Value).toArray sM 0 0 AM) (F0 mM 0 ls []) := by
    intro nn
    induction nn with
    | zero =>
      intro x hxx hI hm
      exact absurd hm (Nat.not_lt_zero _)
    | succ nn ih_2 =>
      intro x hxx hI hm H locs hP hD hS ls hl
      refine lv_aload_n hx hb dX5_skip_0 rfl (lv_at hl 0 rfl) ?_
      refine va_get (D := D) (ci := 5) (v := .int (nI x)) (C := RX5) (T := TX5) (N := 16) hx hb hts in_X5_skip_5 hown hK hP 0 rfl rfl 7 (by decide) (hts (.fieldLink RX5 168 "HoseSpansModel" "at" "I") (List.mem_of_getElem? (i := 1) (by decide +kernel))) (fun _ h9 => h9) rfl dX5_skip_1 ?_
      refine lv_aload_n hx hb dX5_skip_4 rfl (lv_at hl 0 rfl) ?_
      refine va_get (D := D) (ci := 5) (v := .int (nI N)) (C := RX5) (T := TX5) (N := 16) hx hb hts in_X5_skip_5 hown hK hP 0 rfl rfl 6 (by decide) (hts (.fieldLink RX5 165 "HoseSpansModel" "bytes" "I") (List.mem_of_getElem? (i := 2) (by decide +kernel))) (fun _ h9 => h9) rfl dX5_skip_5 ?_
      refine lv_icmp_ge (tgt := 38) hx hb dX5_skip_8 (by decide) (fun c_3 => ?_) (fun c_3 => ?_)
      · have c_3 := Int32.not_lt.mpr c_3
        have c_3 : ¬ x < N := fun h => c_3 ((nI_ltI (a := x) (b := N) (by omega) (by omega)).mpr h)
        rw [show (.int (nI x) : Value) = .int (nI (skB T N ax)) from congrArg Value.int (congrArg nI (by first | exact (skB_e (fun h => absurd h.1 (by assumption))).symm.trans hI | exact (skB_e (fun h => absurd h.2 (by assumption))).symm.trans hI))] at hP hD
        have hP : va_P D vwCl [(m0, .inr (5, [.ref g0, .ref g1, .ref g2, .int (nI ms), .ref g3, .ref g4, .int (nI N), .int (nI (skB T N ax)), .ref g5, .ref g6, .int fa, .int ho, .int la, .int fs, .ref g7, .ref g8])), (g4, .inl (cI, 120, .inl T))] H := hP
        have hD : va_D AM [(m0, .inr (5, [.ref g0, .ref g1, .ref g2, .int (nI ms), .ref g3, .ref g4, .int (nI N), .int (nI (skB T N ax)), .ref g5, .ref g6, .int fa, .int ho, .int la, .int fs, .ref g7, .ref g8])), (g4, .inl (cI, 120, .inl T))] := hD
        refine e_v (u := ()) hx hb hr hlocks hP hD hS dX5_skip_38 ?_ ?_
        · rfl
        · trivial
      · have c_3 := Int32.not_le.mp c_3
        have c_3 : x < N := (nI_ltI (by omega) (by omega)).mp c_3
        refine lv_aload_n hx hb dX5_skip_11 rfl (lv_at hl 0 rfl) ?_
        refine va_get (D := D) (ci := 5) (v := .ref g4) (C := RX5) (T := TX5) (N := 16) hx hb hts in_X5_skip_5 hown hK hP 0 rfl rfl 5 (by decide) (hts (.fieldLink RX5 22 "HoseSpansModel" "text" "[I") (List.mem_of_getElem? (i := 3) (by decide +kernel))) (fun _ h9 => h9) rfl dX5_skip_12 ?_
        refine lv_aload_n hx hb dX5_skip_15 rfl (lv_at hl 0 rfl) ?_
        refine va_get (D := D) (ci := 5) (v := .int (nI x)) (C := RX5) (T := TX5) (N := 16) hx hb hts in_X5_skip_5 hown hK hP 0 rfl rfl 7 (by decide) (hts (.fieldLink RX5 168 "HoseSpansModel" "at" "I") (List.mem_of_getElem? (i := 1) (by decide +kernel))) (fun _ h9 => h9) rfl dX5_skip_16 ?_
        refine va_iald hx hb hK hP 1 0 rfl rfl (vp_in_nI (by omega) (by decide)) dX5_skip_19 ?_
        refine e_n (y := T x) (congrArg T (nI_clamp (by omega))) ?_
        refine lv_bipush (v := 32) hx hb dX5_skip_20 (by decide) ?_
        refine lv_icmp_ne (tgt := 38) hx hb dX5_skip_22 (by decide) (fun c_4 => ?_) (fun c_4 => ?_)
        · rw [show (.int (nI x) : Value) = .int (nI (skB T N ax)) from congrArg Value.int (congrArg nI (by first | exact (skB_e (fun h => absurd h.1 (by assumption))).symm.trans hI | exact (skB_e (fun h => absurd h.2 (by assumption))).symm.trans hI))] at hP hD
          have hP : va_P D vwCl [(m0, .inr (5, [.ref g0, .ref g1, .ref g2, .int (nI ms), .ref g3, .ref g4, .int (nI N), .int (nI (skB T N ax)), .ref g5, .ref g6, .int fa, .int ho, .int la, .int fs, .ref g7, .ref g8])), (g4, .inl (cI, 120, .inl T))] H := hP
          have hD : va_D AM [(m0, .inr (5, [.ref g0, .ref g1, .ref g2, .int (nI ms), .ref g3, .ref g4, .int (nI N), .int (nI (skB T N ax)), .ref g5, .ref g6, .int fa, .int ho, .int la, .int fs, .ref g7, .ref g8])), (g4, .inl (cI, 120, .inl T))] := hD
          refine e_v (u := ()) hx hb hr hlocks hP hD hS dX5_skip_38 ?_ ?_
          · rfl
          · trivial
        · refine lv_aload_n hx hb dX5_skip_25 rfl (lv_at hl 0 rfl) ?_
          refine lv_dup hx hb dX5_skip_26 rfl ?_
          refine va_get (D := D) (ci := 5) (v := .int (nI x)) (C := RX5) (T := TX5) (N := 16) hx hb hts in_X5_skip_5 hown hK hP 0 rfl rfl 7 (by decide) (hts (.fieldLink RX5 168 "HoseSpansModel" "at" "I") (List.mem_of_getElem? (i := 1) (by decide +kernel))) (fun _ h9 => h9) rfl dX5_skip_27 ?_
          refine lv_iconst (v := 1) hx hb dX5_skip_30 (by decide) ?_
          refine lv_iadd hx hb dX5_skip_31 ?_
          refine e_n (y := nI (x + 1)) (nI_add x 1) ?_
          refine va_put (D := D) (ci := 5) (v := .int (nI (x + 1))) (ty := .int) (C := RX5) (T := TX5) (N := 16) hx hb hts in_X5_skip_5 tyX5 tyX5_ok nmX5 hown hK hP hD hS 0 rfl rfl 7 (by decide) (hts (.fieldLink RX5 168 "HoseSpansModel" "at" "I") (List.mem_of_getElem? (i := 1) (by decide +kernel))) (fun _ h9 => h9) rfl (by decide +kernel) rfl rfl (Nat.le_of_ble_eq_true rfl) dX5_skip_32 (fun H locs hP hD hS => ?_)
          have hP : va_P D vwCl [(m0, .inr (5, [.ref g0, .ref g1, .ref g2, .int (nI ms), .ref g3, .ref g4, .int (nI N), .int (nI (x + 1)), .ref g5, .ref g6, .int fa, .int ho, .int la, .int fs, .ref g7, .ref g8])), (g4, .inl (cI, 120, .inl T))] H := hP
          have hD : va_D AM [(m0, .inr (5, [.ref g0, .ref g1, .ref g2, .int (nI ms), .ref g3, .ref g4, .int (nI N), .int (nI (x + 1)), .ref g5, .ref g6, .int fa, .int ho, .int la, .int fs, .ref g7, .ref g8])), (g4, .inl (cI, 120, .inl T))] := hD
          refine lv_goto (tgt := 0) hx hb dX5_skip_35 (by decide) ?_
          have hl9 : lv_has ls 1 [(0, .ref m0)] := lv_sub hl [0] rfl
          exact ih_2 (x + 1) (by first | assumption | omega) (by rw [skB_s (by assumption) (by assumption)]; exact hI) (by omega) H locs hP hD hS ls hl9
  have hl9 : lv_has ls 1 [(0, .ref m0)] := lv_sub hl [0] rfl
  exact lp_1 ((N - ax) + 1) ax (by first | assumption | omega) (by rfl) (Nat.lt_succ_self _) H locs hP hD hS ls hl9
theorem in_X5_isFigure_5 : ∀ w ∈ wsX50, w ∈ wsX5_isFigure := fun _ h => List.mem_cons_of_mem _ (List.mem_append_right _ h)
set_option maxHeartbeats 4000000 in
set_option maxRecDepth 100000 in
theorem c_X5_isFigure (l : Launch) (D : va_G) (cI cB cO : ClassId) (sz : Nat) (m0 g0 g1 g2 g3 g4 g5 g6 g7 g8 ms N ax : Nat) (fa ho la fs : Int32) (T : Nat → Int32) (hN : N ≤ 120) (ha : ax ≤ N) : CI l yX5_isFigure wsX5_isFigure ({ frames := 1, cells := 0, slots := 0, locals := 22 } : Room) D (tyL cI cB cO) [.ref m0] [(m0, .inr (5, [.ref g0, .ref g1, .ref g2, .int (nI ms), .ref g3, .ref g4, .int (nI N), .int (nI ax), .ref g5, .ref g6, .int fa, .int ho, .int la, .int fs, .ref g7, .ref g8])), (g4, .inl (cI, 120, .inl T))] sz (fun (r : Int32) (_ : Unit) => r = bI (fig T N ax)) (fun (u : Unit) => [(m0, .inr (5, [.ref g0, .ref g1, .ref g2, .int (nI ms), .ref g3, .ref g4, .int (nI N), .int (nI ax), .ref g5, .ref g6, .int fa, .int ho, .int la, .int fs, .ref g7, .ref g8])), (g4, .inl (cI, 120, .inl T))]) 0 0 := by
  refine ct_of (cc := cX5_isFigure) (maxL := 1) (ret := some .boolean) (own := RX5) (Qc := QI D (fun (r : Int32) (_ : Unit) => r = bI (fig T N ax)) (fun (u : Unit) => [(m0, .inr (5, [.ref g0, .ref g1, .ref g2, .int (nI ms), .ref g3, .ref g4, .int (nI N), .int (nI ax), .ref g5, .ref g6, .int fa, .int ho, .int la, .int fs, .ref g7, .ref g8])), (g4, .inl (cI, 120, .inl T))])) (by decide) rfl rfl (Nat.le_of_ble_eq_true rfl) ?_
  intro pM eM sM mM below meth cM AM ls H locs hx hb hr hts hown hlocks hml hin hK hP hD hS hA hSt hl
  have hl : lv_has ls 1 [(0, .ref m0)] := hl
  refine lv_aload_n hx hb dX5_isFigure_0 rfl (lv_at hl 0 rfl) ?_
  refine va_get (D := D) (ci := 5) (v := .int (nI ax)) (C := RX5) (T := TX5) (N := 16) hx hb hts in_X5_isFigure_5 hown hK hP 0 rfl rfl 7 (by decide) (hts (.fieldLink RX5 168 "HoseSpansModel" "at" "I") (List.mem_of_getElem? (i := 1) (by decide +kernel))) (fun _ h9 => h9) rfl dX5_isFigure_1 ?_
  refine lv_aload_n hx hb dX5_isFigure_4 rfl (lv_at hl 0 rfl) ?_
  refine va_get (D := D) (ci := 5) (v := .int (nI N)) (C := RX5) (T := TX5) (N := 16) hx hb hts in_X5_isFigure_5 hown hK hP 0 rfl rfl 6 (by decide) (hts (.fieldLink RX5 165 "HoseSpansModel" "bytes" "I") (List.mem_of_getElem? (i := 2) (by decide +kernel))) (fun _ h9 => h9) rfl dX5_isFigure_5 ?_
  refine lv_icmp_ge (tgt := 34) hx hb dX5_isFigure_8 (by decide) (fun c_1 => ?_) (fun c_1 => ?_)
  · have c_1 := Int32.not_lt.mpr c_1
    have c_1 : ¬ ax < N := fun h => c_1 ((nI_ltI (a := ax) (b := N) (by omega) (by omega)).mpr h)
    refine lv_iconst (v := 0) hx hb dX5_isFigure_34 (by decide) ?_
    refine e_z (u := ()) hx hb hr (by first | rfl | exact bI_nar _) hlocks hP hD hS dX5_isFigure_35 ?_ ?_
    · rfl
    · first | exact bI_f (fig_ge (by assumption)) | exact bI_t ((fig_lt (by assumption)).trans (by assumption)) | exact bI_f ((fig_lt (by assumption)).trans (by assumption))
  · have c_1 := Int32.not_le.mp c_1
    have c_1 : ax < N := (nI_ltI (by omega) (by omega)).mp c_1
    refine lv_aload_n hx hb dX5_isFigure_11 rfl (lv_at hl 0 rfl) ?_
    refine va_get (D := D) (ci := 5) (v := .ref g4) (C := RX5) (T := TX5) (N := 16) hx hb hts in_X5_isFigure_5 hown hK hP 0 rfl rfl 5 (by decide) (hts (.fieldLink RX5 22 "HoseSpansModel" "text" "[I") (List.mem_of_getElem? (i := 3) (by decide +kernel))) (fun _ h9 => h9) rfl dX5_isFigure_12 ?_
    refine lv_aload_n hx hb dX5_isFigure_15 rfl (lv_at hl 0 rfl) ?_
    refine va_get (D := D) (ci := 5) (v := .int (nI ax)) (C := RX5) (T := TX5) (N := 16) hx hb hts in_X5_isFigure_5 hown hK hP 0 rfl rfl 7 (by decide) (hts (.fieldLink RX5 168 "HoseSpansModel" "at" "I") (List.mem_of_getElem? (i := 1) (by decide +kernel))) (fun _ h9 => h9) rfl dX5_isFigure_16 ?_
    refine va_iald hx hb hK hP 1 0 rfl rfl (vp_in_nI (by omega) (by decide)) dX5_isFigure_19 ?_
    refine e_n (y := T ax) (congrArg T (nI_clamp (by omega))) ?_
    refine lv_bipush (v := 48) hx hb dX5_isFigure_20 (by decide) ?_
    refine lv_bipush (v := 57) hx hb dX5_isFigure_22 (by decide) ?_
    refine k_i (va_runS (As := [.int (T ax), .int 48, .int 57]) (rest := []) ⟨hx, hb, hml, hown, hts⟩ (c_X5_in l D cI cB cO H.size (T ax) 48 57 ) (va_cwS 3 hts gX5_isFigure_X5_in rfl rfl rfl (by decide +kernel) ⟨Nat.le_of_ble_eq_true rfl, Nat.le_of_ble_eq_true rfl⟩) (preS_of hK hP hD hS hA hSt [] (by decide) rfl) rfl rfl hl.1 rfl (lv_room (Nat.le_of_ble_eq_true rfl)) dX5_isFigure_24 ⟨Nat.le_of_ble_eq_true rfl, Nat.le_of_ble_eq_true rfl⟩) hP hD hS hA [] [0, 1] [0, 1] [(m0, .inr (5, [.ref g0, .ref g1, .ref g2, .int (nI ms), .ref g3, .ref g4, .int (nI N), .int (nI ax), .ref g5, .ref g6, .int fa, .int ho, .int la, .int fs, .ref g7, .ref g8])), (g4, .inl (cI, 120, .inl T))] (fun (u_2 : Unit) => [(m0, .inr (5, [.ref g0, .ref g1, .ref g2, .int (nI ms), .ref g3, .ref g4, .int (nI N), .int (nI ax), .ref g5, .ref g6, .int fa, .int ho, .int la, .int fs, .ref g7, .ref g8])), (g4, .inl (cI, 120, .inl T))]) rfl rfl (by decide) (by decide) (by decide) (fun _ => rfl) (fun r_2 u_2 H locs q_2 hP hD hS => ?_)
    obtain rfl : r_2 = bI (inR (T ax) 48 57) := q_2
    refine lv_if_eq (tgt := 34) hx hb dX5_isFigure_27 (by decide) (fun c_3 => ?_) (fun c_3 => ?_)
    · have c_3 := bI_0.mp c_3
      refine lv_iconst (v := 0) hx hb dX5_isFigure_34 (by decide) ?_
      refine e_z (u := ()) hx hb hr (by first | rfl | exact bI_nar _) hlocks hP hD hS dX5_isFigure_35 ?_ ?_
      · rfl
      · first | exact bI_f (fig_ge (by assumption)) | exact bI_t ((fig_lt (by assumption)).trans (by assumption)) | exact bI_f ((fig_lt (by assumption)).trans (by assumption))
    · have c_3 := bI_n0.mp c_3
      refine lv_iconst (v := 1) hx hb dX5_isFigure_30 (by decide) ?_
      refine lv_goto (tgt := 35) hx hb dX5_isFigure_31 (by decide) ?_
      refine e_z (u := ()) hx hb hr (by first | rfl | exact bI_nar _) hlocks hP hD hS dX5_isFigure_35 ?_ ?_
      · rfl
      · first | exact bI_f (fig_ge (by assumption)) | exact bI_t ((fig_lt (by assumption)).trans (by assumption)) | exact bI_f ((fig_lt (by assumption)).trans (by assumption))
theorem in_X5_readNumber_5 : ∀ w ∈ wsX50, w ∈ wsX5_readNumber := fun _ h => List.mem_cons_of_mem _ (List.mem_append_right _ h)
set_option maxHeartbeats 4000000 in
set_option maxRecDepth 100000 in
theorem c_X5_readNumber (l : Launch) (D : va_G) (cI cB cO : ClassId) (sz : Nat) (m0 g0 g1 g2 g3 g4 g5 g6 g7 g8 ms N ax : Nat) (fa ho la fs : Int32) (T : Nat → Int32) (sd : Nat → Int32) (w : Nat) (may : Bool) (hN : N ≤ 120) (ha : ax ≤ N) (hw4 : w < 4) : CI l yX5_readNumber wsX5_readNumber ({ frames := 2, cells := 0, slots := 0, locals := 42 } : Room) D (tyL cI cB cO) [.ref m0, .int (nI w), .int (bI may)] [(m0, .inr (5, [.ref g0, .ref g1, .ref g2, .int (nI ms), .ref g3, .ref g4, .int (nI N), .int (nI ax), .ref g5, .ref g6, .int fa, .int ho, .int la, .int fs, .ref g7, .ref g8])), (g4, .inl (cI, 120, .inl T)), (g7, .inl (cI, 4, .inl sd))] sz (fun (r : Int32) (_ : Unit) => r = bI (nOk T N may (skB T N ax))) (fun (u : Unit) => [(m0, .inr (5, [.ref g0, .ref g1, .ref g2, .int (nI ms), .ref g3, .ref g4, .int (nI N), .int (nI (nEnd T N may (skB T N ax))), .ref g5, .ref g6, .int fa, .int ho, .int la, .int fs, .ref g7, .ref g8])), (g4, .inl (cI, 120, .inl T)), (g7, .inl (cI, 4, .inl (upd sd w (nVal T N may (skB T N ax)))))]) 0 0 := by
  refine ct_of (cc := cX5_readNumber) (maxL := 6) (ret := some .boolean) (own := RX5) (Qc := QI D (fun (r : Int32) (_ : Unit) => r = bI (nOk T N may (skB T N ax))) (fun (u : Unit) => [(m0, .inr (5, [.ref g0, .ref g1, .ref g2, .int (nI ms), .ref g3, .ref g4, .int (nI N), .int (nI (nEnd T N may (skB T N ax))), .ref g5, .ref g6, .int fa, .int ho, .int la, .int fs, .ref g7, .ref g8])), (g4, .inl (cI, 120, .inl T)), (g7, .inl (cI, 4, .inl (upd sd w (nVal T N may (skB T N ax)))))])) (by decide) rfl rfl (Nat.le_of_ble_eq_true rfl) ?_
  intro pM eM sM mM below meth cM AM ls H locs hx hb hr hts hown hlocks hml hin hK hP hD hS hA hSt hl
  have hl : lv_has ls 6 [(0, .ref m0), (1, .int (nI w)), (2, .int (bI may))] := hl
  have hAk : skB T N ax ≤ N := skB_N ha
  have hBk := (nSt_N (T := T) (may := may) hAk).2
  refine lv_aload_n hx hb dX5_readNumber_0 rfl (lv_at hl 0 rfl) ?_
  refine k_v (va_runV (As := []) (rest := []) ⟨hx, hb, hml, hown, hts⟩ (c_X5_skip l D cI cB cO H.size m0 g0 g1 g2 g3 g4 g5 g6 g7 g8 ms N ax fa ho la fs T (by first | assumption | omega | exact skB_N ha | exact (nSt_N (skB_N ha)).2) (by first | assumption | omega | exact skB_N ha | exact (nSt_N (skB_N ha)).2)) (cwV 0 hts gX5_readNumber_X5_skip rfl rfl rfl (by decide +kernel) ⟨Nat.le_of_ble_eq_true rfl, Nat.le_of_ble_eq_true rfl⟩) (preV_of hK hP hD hS hA hSt [0, 1] (by decide) rfl 0 (ci := 5) rfl rfl) rfl rfl hl.1 rfl (lv_room (Nat.le_of_ble_eq_true rfl)) dX5_readNumber_1 ⟨Nat.le_of_ble_eq_true rfl, Nat.le_of_ble_eq_true rfl⟩) hP hD hS hA [0, 1] [2] [1, 2, 0] [(g7, .inl (cI, 4, .inl sd))] (fun (u_1 : Unit) => [(m0, .inr (5, [.ref g0, .ref g1, .ref g2, .int (nI ms), .ref g3, .ref g4, .int (nI N), .int (nI (skB T N ax)), .ref g5, .ref g6, .int fa, .int ho, .int la, .int fs, .ref g7, .ref g8])), (g4, .inl (cI, 120, .inl T)), (g7, .inl (cI, 4, .inl sd))]) rfl rfl (by decide) (by decide) (by decide) (fun _ => rfl) (fun u_1 H locs q_1 hP hD hS => ?_)
  have jn_2 : ∀ (H : Heap) (locs : List Loc), va_P D vwCl [(m0, .inr (5, [.ref g0, .ref g1, .ref g2, .int (nI ms), .ref g3, .ref g4, .int (nI N), .int (nI (skB T N ax)), .ref g5, .ref g6, .int fa, .int ho, .int la, .int fs, .ref g7, .ref g8])), (g4, .inl (cI, 120, .inl T)), (g7, .inl (cI, 4, .inl sd))] H → va_D AM [(m0, .inr (5, [.ref g0, .ref g1, .ref g2, .int (nI ms), .ref g3, .ref g4, .int (nI N), .int (nI (skB T N ax)), .ref g5, .ref g6, .int fa, .int ho, .int la, .int fs, .ref g7, .ref g8])), (g4, .inl (cI, 120, .inl T)), (g7, .inl (cI, 4, .inl sd))] → va_S AM sM.heap H locs → ∀ (ls : Array Slot), lv_has ls 6 [(0, .ref m0), (1, .int (nI w)), (2, .int (bI may))] → W pM l eM ({ frames := 2, cells := 0, slots := 0, locals := 42 } : Room) sM mM ([.ref m0, .int (nI w), .int (bI may)] : List Value).toArray below meth cM H locs 0 0 (MQ below (QI D (fun (r : Int32) (_ : Unit) => r = bI (nOk T N may (skB T N ax))) (fun (u : Unit) => [(m0, .inr (5, [.ref g0, .ref g1, .ref g2, .int (nI ms), .ref g3, .ref g4, .int (nI N), .int (nI (nEnd T N may (skB T N ax))), .ref g5, .ref g6, .int fa, .int ho, .int la, .int fs, .ref g7, .ref g8])), (g4, .inl (cI, 120, .inl T)), (g7, .inl (cI, 4, .inl (upd sd w (nVal T N may (skB T N ax)))))]) AM) ([.ref m0, .int (nI w), .int (bI may)] : List Value).toArray sM 0 0 AM) (F0 mM 38 ls [.int (bI (neg T N may (skB T N ax)))]) := by
    intro  H locs hP hD hS ls hl
    refine lv_istore_n (lv' := [(3, .int (bI (neg T N may (skB T N ax)))), (0, .ref m0), (1, .int (nI w)), (2, .int (bI may))]) hx hb dX5_readNumber_38 rfl hl (by decide) rfl (fun ls hl => ?_)
    have jn_3 : ∀ (H : Heap) (locs : List Loc), va_P D vwCl [(m0, .inr (5, [.ref g0, .ref g1, .ref g2, .int (nI ms), .ref g3, .ref g4, .int (nI N), .int (nI (nSt T N may (skB T N ax))), .ref g5, .ref g6, .int fa, .int ho, .int la, .int fs, .ref g7, .ref g8])), (g4, .inl (cI, 120, .inl T)), (g7, .inl (cI, 4, .inl sd))] H → va_D AM [(m0, .inr (5, [.ref g0, .ref g1, .ref g2, .int (nI ms), .ref g3, .ref g4, .int (nI N), .int (nI (nSt T N may (skB T N ax))), .ref g5, .ref g6, .int fa, .int ho, .int la, .int fs, .ref g7, .ref g8])), (g4, .inl (cI, 120, .inl T)), (g7, .inl (cI, 4, .inl sd))] → va_S AM sM.heap H locs → ∀ (ls : Array Slot), lv_has ls 6 [(3, .int (bI (neg T N may (skB T N ax)))), (0, .ref m0), (1, .int (nI w)), (2, .int (bI may))] → W pM l eM ({ frames := 2, cells := 0, slots := 0, locals := 42 } : Room) sM mM ([.ref m0, .int (nI w), .int (bI may)] : List Value).toArray below meth cM H locs 0 0 (MQ below (QI D (fun (r : Int32) (_ : Unit) => r = bI (nOk T N may (skB T N ax))) (fun (u : Unit) => [(m0, .inr (5, [.ref g0, .ref g1, .ref g2, .int (nI ms), .ref g3, .ref g4, .int (nI N), .int (nI (nEnd T N may (skB T N ax))), .ref g5, .ref g6, .int fa, .int ho, .int la, .int fs, .ref g7, .ref g8])), (g4, .inl (cI, 120, .inl T)), (g7, .inl (cI, 4, .inl (upd sd w (nVal T N may (skB T N ax)))))]) AM) ([.ref m0, .int (nI w), .int (bI may)] : List Value).toArray sM 0 0 AM) (F0 mM 57 ls []) := by
      intro  H locs hP hD hS ls hl
      refine lv_aload_n hx hb dX5_readNumber_57 rfl (lv_at hl 1 rfl) ?_
      refine va_get (D := D) (ci := 5) (v := .int (nI (nSt T N may (skB T N ax)))) (C := RX5) (T := TX5) (N := 16) hx hb hts in_X5_readNumber_5 hown hK hP 0 rfl rfl 7 (by decide) (hts (.fieldLink RX5 168 "HoseSpansModel" "at" "I") (List.mem_of_getElem? (i := 1) (by decide +kernel))) (fun _ h9 => h9) rfl dX5_readNumber_58 ?_
      refine lv_istore (lv' := [(4, .int (nI (nSt T N may (skB T N ax)))), (3, .int (bI (neg T N may (skB T N ax)))), (0, .ref m0), (1, .int (nI w)), (2, .int (bI may))]) hx hb dX5_readNumber_61 hl (by decide) rfl (fun ls hl => ?_)
      refine lv_iconst (v := 0) hx hb dX5_readNumber_63 (by decide) ?_
      refine lv_istore (lv' := [(5, .int 0), (4, .int (nI (nSt T N may (skB T N ax)))), (3, .int (bI (neg T N may (skB T N ax)))), (0, .ref m0), (1, .int (nI w)), (2, .int (bI may))]) hx hb dX5_readNumber_64 hl (by decide) rfl (fun ls hl => ?_)
      have lp_4 : ∀ (nn : Nat) (y : Nat) (v : Int32), (y ≤ N) → (nSt T N may (skB T N ax) ≤ y) → (y ≤ nSt T N may (skB T N ax) + 3) → (dg T N (3 - (y - nSt T N may (skB T N ax))) y v = dg T N 3 (nSt T N may (skB T N ax)) 0) → (N - y) < nn → ∀ (H : Heap) (locs : List Loc), va_P D vwCl [(m0, .inr (5, [.ref g0, .ref g1, .ref g2, .int (nI ms), .ref g3, .ref g4, .int (nI N), .int (nI y), .ref g5, .ref g6, .int fa, .int ho, .int la, .int fs, .ref g7, .ref g8])), (g4, .inl (cI, 120, .inl T)), (g7, .inl (cI, 4, .inl sd))] H → va_D AM [(m0, .inr (5, [.ref g0, .ref g1, .ref g2, .int (nI ms), .ref g3, .ref g4, .int (nI N), .int (nI y), .ref g5, .ref g6, .int fa, .int ho, .int la, .int fs, .ref g7, .ref g8])), (g4, .inl (cI, 120, .inl T)), (g7, .inl (cI, 4, .inl sd))] → va_S AM sM.heap H locs → ∀ (ls : Array Slot), lv_has ls 6 [(0, .ref m0), (1, .int (nI w)), (3, .int (bI (neg T N may (skB T N ax)))), (4, .int (nI (nSt T N may (skB T N ax)))), (5, .int v)] → W pM l eM ({ frames := 2, cells := 0, slots := 0, locals := 42 } : Room) sM mM ([.ref m0, .int (nI w), .int (bI may)] : List Value).toArray below meth cM H locs 0 0 (MQ below (QI D (fun (r : Int32) (_ : Unit) => r = bI (nOk T N may (skB T N ax))) (fun (u : Unit) => [(m0, .inr (5, [.ref g0, .ref g1, .ref g2, .int (nI ms), .ref g3, .ref g4, .int (nI N), .int (nI (nEnd T N may (skB T N ax))), .ref g5, .ref g6, .int fa, .int ho, .int la, .int fs, .ref g7, .ref g8])), (g4, .inl (cI, 120, .inl T)), (g7, .inl (cI, 4, .inl (upd sd w (nVal T N may (skB T N ax)))))]) AM) ([.ref m0, .int (nI w), .int (bI may)] : List Value).toArray sM 0 0 AM) (F0 mM 66 ls []) := by
        intro nn
        induction nn with
        | zero =>
          intro y v hy hy1 hy2 hI hm
          exact absurd hm (Nat.not_lt_zero _)
        | succ nn ih_5 =>
          intro y v hy hy1 hy2 hI hm H locs hP hD hS ls hl
          refine lv_aload_n hx hb dX5_readNumber_66 rfl (lv_at hl 0 rfl) ?_
          have jn_6 : (dg T N 3 (nSt T N may (skB T N ax)) 0 = (y, v)) → ∀ (H : Heap) (locs : List Loc), va_P D vwCl [(m0, .inr (5, [.ref g0, .ref g1, .ref g2, .int (nI ms), .ref g3, .ref g4, .int (nI N), .int (nI y), .ref g5, .ref g6, .int fa, .int ho, .int la, .int fs, .ref g7, .ref g8])), (g4, .inl (cI, 120, .inl T)), (g7, .inl (cI, 4, .inl sd))] H → va_D AM [(m0, .inr (5, [.ref g0, .ref g1, .ref g2, .int (nI ms), .ref g3, .ref g4, .int (nI N), .int (nI y), .ref g5, .ref g6, .int fa, .int ho, .int la, .int fs, .ref g7, .ref g8])), (g4, .inl (cI, 120, .inl T)), (g7, .inl (cI, 4, .inl sd))] → va_S AM sM.heap H locs → ∀ (ls : Array Slot), lv_has ls 6 [(0, .ref m0), (1, .int (nI w)), (3, .int (bI (neg T N may (skB T N ax)))), (4, .int (nI (nSt T N may (skB T N ax)))), (5, .int v)] → W pM l eM ({ frames := 2, cells := 0, slots := 0, locals := 42 } : Room) sM mM ([.ref m0, .int (nI w), .int (bI may)] : List Value).toArray below meth cM H locs 0 0 (MQ below (QI D (fun (r : Int32) (_ : Unit) => r = bI (nOk T N may (skB T N ax))) (fun (u : Unit) => [(m0, .inr (5, [.ref g0, .ref g1, .ref g2, .int (nI ms), .ref g3, .ref g4, .int (nI N), .int (nI (nEnd T N may (skB T N ax))), .ref g5, .ref g6, .int fa, .int ho, .int la, .int fs, .ref g7, .ref g8])), (g4, .inl (cI, 120, .inl T)), (g7, .inl (cI, 4, .inl (upd sd w (nVal T N may (skB T N ax)))))]) AM) ([.ref m0, .int (nI w), .int (bI may)] : List Value).toArray sM 0 0 AM) (F0 mM 117 ls []) := by
            intro he H locs hP hD hS ls hl
            refine lv_aload_n hx hb dX5_readNumber_117 rfl (lv_at hl 0 rfl) ?_
            refine va_get (D := D) (ci := 5) (v := .ref g7) (C := RX5) (T := TX5) (N := 16) hx hb hts in_X5_readNumber_5 hown hK hP 0 rfl rfl 14 (by decide) (hts (.fieldLink RX5 31 "HoseSpansModel" "said" "[I") (List.mem_of_getElem? (i := 4) (by decide +kernel))) (fun _ h9 => h9) rfl dX5_readNumber_118 ?_
            refine lv_iload_n hx hb dX5_readNumber_121 rfl (lv_at hl 1 rfl) ?_
            have jn_7 : ∀ (H : Heap) (locs : List Loc), va_P D vwCl [(m0, .inr (5, [.ref g0, .ref g1, .ref g2, .int (nI ms), .ref g3, .ref g4, .int (nI N), .int (nI y), .ref g5, .ref g6, .int fa, .int ho, .int la, .int fs, .ref g7, .ref g8])), (g4, .inl (cI, 120, .inl T)), (g7, .inl (cI, 4, .inl sd))] H → va_D AM [(m0, .inr (5, [.ref g0, .ref g1, .ref g2, .int (nI ms), .ref g3, .ref g4, .int (nI N), .int (nI y), .ref g5, .ref g6, .int fa, .int ho, .int la, .int fs, .ref g7, .ref g8])), (g4, .inl (cI, 120, .inl T)), (g7, .inl (cI, 4, .inl sd))] → va_S AM sM.heap H locs → ∀ (ls : Array Slot), lv_has ls 6 [(0, .ref m0), (1, .int (nI w)), (3, .int (bI (neg T N may (skB T N ax)))), (4, .int (nI (nSt T N may (skB T N ax)))), (5, .int v)] → W pM l eM ({ frames := 2, cells := 0, slots := 0, locals := 42 } : Room) sM mM ([.ref m0, .int (nI w), .int (bI may)] : List Value).toArray below meth cM H locs 0 0 (MQ below (QI D (fun (r : Int32) (_ : Unit) => r = bI (nOk T N may (skB T N ax))) (fun (u : Unit) => [(m0, .inr (5, [.ref g0, .ref g1, .ref g2, .int (nI ms), .ref g3, .ref g4, .int (nI N), .int (nI (nEnd T N may (skB T N ax))), .ref g5, .ref g6, .int fa, .int ho, .int la, .int fs, .ref g7, .ref g8])), (g4, .inl (cI, 120, .inl T)), (g7, .inl (cI, 4, .inl (upd sd w (nVal T N may (skB T N ax)))))]) AM) ([.ref m0, .int (nI w), .int (bI may)] : List Value).toArray sM 0 0 AM) (F0 mM 134 ls [.int (nVal T N may (skB T N ax)), .int (nI w), .ref g7]) := by
              intro  H locs hP hD hS ls hl
              refine va_iast hx hb hK hP hD hS 2 0 rfl rfl (vp_in_nI (by omega) (by decide)) dX5_readNumber_134 (fun H locs hP hD hS => ?_)
              rw [show Int32.toNatClampNeg (nI w) = w from (nI_clamp (by omega))] at hP hD
              have hP : va_P D vwCl [(m0, .inr (5, [.ref g0, .ref g1, .ref g2, .int (nI ms), .ref g3, .ref g4, .int (nI N), .int (nI y), .ref g5, .ref g6, .int fa, .int ho, .int la, .int fs, .ref g7, .ref g8])), (g4, .inl (cI, 120, .inl T)), (g7, .inl (cI, 4, .inl (upd sd w (nVal T N may (skB T N ax)))))] H := hP
              have hD : va_D AM [(m0, .inr (5, [.ref g0, .ref g1, .ref g2, .int (nI ms), .ref g3, .ref g4, .int (nI N), .int (nI y), .ref g5, .ref g6, .int fa, .int ho, .int la, .int fs, .ref g7, .ref g8])), (g4, .inl (cI, 120, .inl T)), (g7, .inl (cI, 4, .inl (upd sd w (nVal T N may (skB T N ax)))))] := hD
              refine lv_aload_n hx hb dX5_readNumber_135 rfl (lv_at hl 0 rfl) ?_
              refine va_get (D := D) (ci := 5) (v := .int (nI y)) (C := RX5) (T := TX5) (N := 16) hx hb hts in_X5_readNumber_5 hown hK hP 0 rfl rfl 7 (by decide) (hts (.fieldLink RX5 168 "HoseSpansModel" "at" "I") (List.mem_of_getElem? (i := 1) (by decide +kernel))) (fun _ h9 => h9) rfl dX5_readNumber_136 ?_
              refine lv_iload hx hb dX5_readNumber_139 (lv_at hl 3 rfl) ?_
              refine lv_icmp_le (tgt := 155) hx hb dX5_readNumber_141 (by decide) (fun c_8 => ?_) (fun c_8 => ?_)
              · have c_8 := Int32.not_lt.mpr c_8
                have hadv : ¬ nSt T N may (skB T N ax) < y := fun h => c_8 ((nI_ltI (a := nSt T N may (skB T N ax)) (b := y) (by omega) (by omega)).mpr h)
                refine lv_iconst (v := 0) hx hb dX5_readNumber_155 (by decide) ?_
                rw [show (.int (nI y) : Value) = .int (nI (nEnd T N may (skB T N ax))) from congrArg Value.int (congrArg nI (nEnd_of he).symm)] at hP hD
                have hP : va_P D vwCl [(m0, .inr (5, [.ref g0, .ref g1, .ref g2, .int (nI ms), .ref g3, .ref g4, .int (nI N), .int (nI (nEnd T N may (skB T N ax))), .ref g5, .ref g6, .int fa, .int ho, .int la, .int fs, .ref g7, .ref g8])), (g4, .inl (cI, 120, .inl T)), (g7, .inl (cI, 4, .inl (upd sd w (nVal T N may (skB T N ax)))))] H := hP
                have hD : va_D AM [(m0, .inr (5, [.ref g0, .ref g1, .ref g2, .int (nI ms), .ref g3, .ref g4, .int (nI N), .int (nI (nEnd T N may (skB T N ax))), .ref g5, .ref g6, .int fa, .int ho, .int la, .int fs, .ref g7, .ref g8])), (g4, .inl (cI, 120, .inl T)), (g7, .inl (cI, 4, .inl (upd sd w (nVal T N may (skB T N ax)))))] := hD
                refine e_z (u := ()) hx hb hr (by first | rfl | exact bI_nar _) hlocks hP hD hS dX5_readNumber_156 ?_ ?_
                · rfl
                · first | exact bI_t (nOk_t (adv_t he hadv) (by rw [nEnd_of he]; exact hf2)) | exact bI_f (nOk_f2 (by rw [nEnd_of he]; exact hf2)) | exact bI_f (nOk_f1 (adv_f he hadv))
              · have c_8 := Int32.not_le.mp c_8
                have hadv : nSt T N may (skB T N ax) < y := (nI_ltI (a := nSt T N may (skB T N ax)) (b := y) (by omega) (by omega)).mp c_8
                refine lv_aload_n hx hb dX5_readNumber_144 rfl (lv_at hl 0 rfl) ?_
                refine k_i (va_runV (As := []) (rest := []) ⟨hx, hb, hml, hown, hts⟩ (c_X5_isFigure l D cI cB cO H.size m0 g0 g1 g2 g3 g4 g5 g6 g7 g8 ms N y fa ho la fs T (by first | assumption | omega | exact skB_N ha | exact (nSt_N (skB_N ha)).2) (by first | assumption | omega | exact skB_N ha | exact (nSt_N (skB_N ha)).2)) (cwV 0 hts gX5_readNumber_X5_isFigure rfl rfl rfl (by decide +kernel) ⟨Nat.le_of_ble_eq_true rfl, Nat.le_of_ble_eq_true rfl⟩) (preV_of hK hP hD hS hA hSt [0, 1] (by decide) rfl 0 (ci := 5) rfl rfl) rfl rfl hl.1 rfl (lv_room (Nat.le_of_ble_eq_true rfl)) dX5_readNumber_145 ⟨Nat.le_of_ble_eq_true rfl, Nat.le_of_ble_eq_true rfl⟩) hP hD hS hA [0, 1] [2] [1, 2, 0] [(g7, .inl (cI, 4, .inl (upd sd w (nVal T N may (skB T N ax)))))] (fun (u_9 : Unit) => [(m0, .inr (5, [.ref g0, .ref g1, .ref g2, .int (nI ms), .ref g3, .ref g4, .int (nI N), .int (nI y), .ref g5, .ref g6, .int fa, .int ho, .int la, .int fs, .ref g7, .ref g8])), (g4, .inl (cI, 120, .inl T)), (g7, .inl (cI, 4, .inl (upd sd w (nVal T N may (skB T N ax)))))]) rfl rfl (by decide) (by decide) (by decide) (fun _ => rfl) (fun r_9 u_9 H locs q_9 hP hD hS => ?_)
                obtain rfl : r_9 = bI (fig T N y) := q_9
                refine lv_if_ne (tgt := 155) hx hb dX5_readNumber_148 (by decide) (fun c_10 => ?_) (fun c_10 => ?_)
                · have c_10 := bI_n0.mp c_10
                  have hf2 := c_10
                  refine lv_iconst (v := 0) hx hb dX5_readNumber_155 (by decide) ?_
                  rw [show (.int (nI y) : Value) = .int (nI (nEnd T N may (skB T N ax))) from congrArg Value.int (congrArg nI (nEnd_of he).symm)] at hP hD
                  have hP : va_P D vwCl [(m0, .inr (5, [.ref g0, .ref g1, .ref g2, .int (nI ms), .ref g3, .ref g4, .int (nI N), .int (nI (nEnd T N may (skB T N ax))), .ref g5, .ref g6, .int fa, .int ho, .int la, .int fs, .ref g7, .ref g8])), (g4, .inl (cI, 120, .inl T)), (g7, .inl (cI, 4, .inl (upd sd w (nVal T N may (skB T N ax)))))] H := hP
                  have hD : va_D AM [(m0, .inr (5, [.ref g0, .ref g1, .ref g2, .int (nI ms), .ref g3, .ref g4, .int (nI N), .int (nI (nEnd T N may (skB T N ax))), .ref g5, .ref g6, .int fa, .int ho, .int la, .int fs, .ref g7, .ref g8])), (g4, .inl (cI, 120, .inl T)), (g7, .inl (cI, 4, .inl (upd sd w (nVal T N may (skB T N ax)))))] := hD
                  refine e_z (u := ()) hx hb hr (by first | rfl | exact bI_nar _) hlocks hP hD hS dX5_readNumber_156 ?_ ?_
                  · rfl
                  · first | exact bI_t (nOk_t (adv_t he hadv) (by rw [nEnd_of he]; exact hf2)) | exact bI_f (nOk_f2 (by rw [nEnd_of he]; exact hf2)) | exact bI_f (nOk_f1 (adv_f he hadv))
                · have c_10 := bI_0.mp c_10
                  have hf2 := c_10
                  refine lv_iconst (v := 1) hx hb dX5_readNumber_151 (by decide) ?_
                  refine lv_goto (tgt := 156) hx hb dX5_readNumber_152 (by decide) ?_
                  rw [show (.int (nI y) : Value) = .int (nI (nEnd T N may (skB T N ax))) from congrArg Value.int (congrArg nI (nEnd_of he).symm)] at hP hD
                  have hP : va_P D vwCl [(m0, .inr (5, [.ref g0, .ref g1, .ref g2, .int (nI ms), .ref g3, .ref g4, .int (nI N), .int (nI (nEnd T N may (skB T N ax))), .ref g5, .ref g6, .int fa, .int ho, .int la, .int fs, .ref g7, .ref g8])), (g4, .inl (cI, 120, .inl T)), (g7, .inl (cI, 4, .inl (upd sd w (nVal T N may (skB T N ax)))))] H := hP
                  have hD : va_D AM [(m0, .inr (5, [.ref g0, .ref g1, .ref g2, .int (nI ms), .ref g3, .ref g4, .int (nI N), .int (nI (nEnd T N may (skB T N ax))), .ref g5, .ref g6, .int fa, .int ho, .int la, .int fs, .ref g7, .ref g8])), (g4, .inl (cI, 120, .inl T)), (g7, .inl (cI, 4, .inl (upd sd w (nVal T N may (skB T N ax)))))] := hD
                  refine e_z (u := ()) hx hb hr (by first | rfl | exact bI_nar _) hlocks hP hD hS dX5_readNumber_156 ?_ ?_
                  · rfl
                  · first | exact bI_t (nOk_t (adv_t he hadv) (by rw [nEnd_of he]; exact hf2)) | exact bI_f (nOk_f2 (by rw [nEnd_of he]; exact hf2)) | exact bI_f (nOk_f1 (adv_f he hadv))
            refine lv_iload_n hx hb dX5_readNumber_122 rfl (lv_at hl 2 rfl) ?_
            refine lv_if_eq (tgt := 132) hx hb dX5_readNumber_123 (by decide) (fun c_11 => ?_) (fun c_11 => ?_)
            · have c_11 := bI_0.mp c_11
              refine lv_iload hx hb dX5_readNumber_132 (lv_at hl 4 rfl) ?_
              refine e_n (y := nVal T N may (skB T N ax)) (by first | exact nVal_t he (by assumption) | exact nVal_f he (by assumption)) ?_
              exact jn_7  H locs hP hD hS ls (lv_sub hl [0, 1, 2, 3, 4] rfl)
            · have c_11 := bI_n0.mp c_11
              refine lv_iload hx hb dX5_readNumber_126 (lv_at hl 4 rfl) ?_
              refine lv_ineg hx hb dX5_readNumber_128 ?_
              refine lv_goto (tgt := 134) hx hb dX5_readNumber_129 (by decide) ?_
              refine e_n (y := nVal T N may (skB T N ax)) (by first | exact nVal_t he (by assumption) | exact nVal_f he (by assumption)) ?_
              exact jn_7  H locs hP hD hS ls (lv_sub hl [0, 1, 2, 3, 4] rfl)
          refine k_i (va_runV (As := []) (rest := []) ⟨hx, hb, hml, hown, hts⟩ (c_X5_isFigure l D cI cB cO H.size m0 g0 g1 g2 g3 g4 g5 g6 g7 g8 ms N y fa ho la fs T (by first | assumption | omega | exact skB_N ha | exact (nSt_N (skB_N ha)).2) (by first | assumption | omega | exact skB_N ha | exact (nSt_N (skB_N ha)).2)) (cwV 0 hts gX5_readNumber_X5_isFigure rfl rfl rfl (by decide +kernel) ⟨Nat.le_of_ble_eq_true rfl, Nat.le_of_ble_eq_true rfl⟩) (preV_of hK hP hD hS hA hSt [0, 1] (by decide) rfl 0 (ci := 5) rfl rfl) rfl rfl hl.1 rfl (lv_room (Nat.le_of_ble_eq_true rfl)) dX5_readNumber_67 ⟨Nat.le_of_ble_eq_true rfl, Nat.le_of_ble_eq_true rfl⟩) hP hD hS hA [0, 1] [2] [1, 2, 0] [(g7, .inl (cI, 4, .inl sd))] (fun (u_12 : Unit) => [(m0, .inr (5, [.ref g0, .ref g1, .ref g2, .int (nI ms), .ref g3, .ref g4, .int (nI N), .int (nI y), .ref g5, .ref g6, .int fa, .int ho, .int la, .int fs, .ref g7, .ref g8])), (g4, .inl (cI, 120, .inl T)), (g7, .inl (cI, 4, .inl sd))]) rfl rfl (by decide) (by decide) (by decide) (fun _ => rfl) (fun r_12 u_12 H locs q_12 hP hD hS => ?_)
          obtain rfl : r_12 = bI (fig T N y) := q_12
          refine lv_if_eq (tgt := 117) hx hb dX5_readNumber_70 (by decide) (fun c_13 => ?_) (fun c_13 => ?_)
          · have c_13 := bI_0.mp c_13
            exact jn_6 (by first | exact hI.symm.trans (dg_e (by assumption)) | exact hI.symm.trans (by rw [show 3 - (y - nSt T N may (skB T N ax)) = 0 by omega]; rfl)) H locs hP hD hS ls (lv_sub hl [0, 1, 2, 3, 4] rfl)
          · have c_13 := bI_n0.mp c_13
            have hfg := c_13
            have hyN := fig_N hfg
            refine lv_aload_n hx hb dX5_readNumber_73 rfl (lv_at hl 0 rfl) ?_
            refine va_get (D := D) (ci := 5) (v := .int (nI y)) (C := RX5) (T := TX5) (N := 16) hx hb hts in_X5_readNumber_5 hown hK hP 0 rfl rfl 7 (by decide) (hts (.fieldLink RX5 168 "HoseSpansModel" "at" "I") (List.mem_of_getElem? (i := 1) (by decide +kernel))) (fun _ h9 => h9) rfl dX5_readNumber_74 ?_
            refine lv_iload hx hb dX5_readNumber_77 (lv_at hl 3 rfl) ?_
            refine lv_iconst (v := 3) hx hb dX5_readNumber_79 (by decide) ?_
            refine lv_iadd hx hb dX5_readNumber_80 ?_
            refine e_n (y := nI (nSt T N may (skB T N ax) + 3)) (nI_add (nSt T N may (skB T N ax)) 3) ?_
            refine lv_icmp_ge (tgt := 117) hx hb dX5_readNumber_81 (by decide) (fun c_14 => ?_) (fun c_14 => ?_)
            · have c_14 := Int32.not_lt.mpr c_14
              have c_14 : ¬ y < nSt T N may (skB T N ax) + 3 := fun h => c_14 ((nI_ltI (a := y) (b := nSt T N may (skB T N ax) + 3) (by omega) (by omega)).mpr h)
              exact jn_6 (by first | exact hI.symm.trans (dg_e (by assumption)) | exact hI.symm.trans (by rw [show 3 - (y - nSt T N may (skB T N ax)) = 0 by omega]; rfl)) H locs hP hD hS ls (lv_sub hl [0, 1, 2, 3, 4] rfl)
            · have c_14 := Int32.not_le.mp c_14
              have c_14 : y < nSt T N may (skB T N ax) + 3 := (nI_ltI (a := y) (b := nSt T N may (skB T N ax) + 3) (by omega) (by omega)).mp c_14
              refine lv_bipush (v := 10) hx hb dX5_readNumber_84 (by decide) ?_
              refine lv_iload hx hb dX5_readNumber_86 (lv_at hl 4 rfl) ?_
              refine lv_imul hx hb dX5_readNumber_88 ?_
              refine lv_aload_n hx hb dX5_readNumber_89 rfl (lv_at hl 0 rfl) ?_
              refine va_get (D := D) (ci := 5) (v := .ref g4) (C := RX5) (T := TX5) (N := 16) hx hb hts in_X5_readNumber_5 hown hK hP 0 rfl rfl 5 (by decide) (hts (.fieldLink RX5 22 "HoseSpansModel" "text" "[I") (List.mem_of_getElem? (i := 3) (by decide +kernel))) (fun _ h9 => h9) rfl dX5_readNumber_90 ?_
              refine lv_aload_n hx hb dX5_readNumber_93 rfl (lv_at hl 0 rfl) ?_
              refine va_get (D := D) (ci := 5) (v := .int (nI y)) (C := RX5) (T := TX5) (N := 16) hx hb hts in_X5_readNumber_5 hown hK hP 0 rfl rfl 7 (by decide) (hts (.fieldLink RX5 168 "HoseSpansModel" "at" "I") (List.mem_of_getElem? (i := 1) (by decide +kernel))) (fun _ h9 => h9) rfl dX5_readNumber_94 ?_
              refine va_iald hx hb hK hP 1 0 rfl rfl (vp_in_nI (by omega) (by decide)) dX5_readNumber_97 ?_
              refine e_n (y := T y) (congrArg T (nI_clamp (by omega))) ?_
              refine e_n (y := bh T N y) (bh_t hyN).symm ?_
              refine lv_iadd hx hb dX5_readNumber_98 ?_
              refine lv_bipush (v := 48) hx hb dX5_readNumber_99 (by decide) ?_
              refine lv_isub hx hb dX5_readNumber_101 ?_
              refine lv_istore (lv' := [(5, .int (((10 * v) + (bh T N y)) - 48)), (0, .ref m0), (1, .int (nI w)), (3, .int (bI (neg T N may (skB T N ax)))), (4, .int (nI (nSt T N may (skB T N ax))))]) hx hb dX5_readNumber_102 hl (by decide) rfl (fun ls hl => ?_)
              refine lv_aload_n hx hb dX5_readNumber_104 rfl (lv_at hl 1 rfl) ?_
              refine lv_dup hx hb dX5_readNumber_105 rfl ?_
              refine va_get (D := D) (ci := 5) (v := .int (nI y)) (C := RX5) (T := TX5) (N := 16) hx hb hts in_X5_readNumber_5 hown hK hP 0 rfl rfl 7 (by decide) (hts (.fieldLink RX5 168 "HoseSpansModel" "at" "I") (List.mem_of_getElem? (i := 1) (by decide +kernel))) (fun _ h9 => h9) rfl dX5_readNumber_106 ?_
              refine lv_iconst (v := 1) hx hb dX5_readNumber_109 (by decide) ?_
              refine lv_iadd hx hb dX5_readNumber_110 ?_
              refine e_n (y := nI (y + 1)) (nI_add y 1) ?_
              refine va_put (D := D) (ci := 5) (v := .int (nI (y + 1))) (ty := .int) (C := RX5) (T := TX5) (N := 16) hx hb hts in_X5_readNumber_5 tyX5 tyX5_ok nmX5 hown hK hP hD hS 0 rfl rfl 7 (by decide) (hts (.fieldLink RX5 168 "HoseSpansModel" "at" "I") (List.mem_of_getElem? (i := 1) (by decide +kernel))) (fun _ h9 => h9) rfl (by decide +kernel) rfl rfl (Nat.le_of_ble_eq_true rfl) dX5_readNumber_111 (fun H locs hP hD hS => ?_)
              have hP : va_P D vwCl [(m0, .inr (5, [.ref g0, .ref g1, .ref g2, .int (nI ms), .ref g3, .ref g4, .int (nI N), .int (nI (y + 1)), .ref g5, .ref g6, .int fa, .int ho, .int la, .int fs, .ref g7, .ref g8])), (g4, .inl (cI, 120, .inl T)), (g7, .inl (cI, 4, .inl sd))] H := hP
              have hD : va_D AM [(m0, .inr (5, [.ref g0, .ref g1, .ref g2, .int (nI ms), .ref g3, .ref g4, .int (nI N), .int (nI (y + 1)), .ref g5, .ref g6, .int fa, .int ho, .int la, .int fs, .ref g7, .ref g8])), (g4, .inl (cI, 120, .inl T)), (g7, .inl (cI, 4, .inl sd))] := hD
              refine lv_goto (tgt := 66) hx hb dX5_readNumber_114 (by decide) ?_
              have hl9 : lv_has ls 6 [(0, .ref m0), (1, .int (nI w)), (3, .int (bI (neg T N may (skB T N ax)))), (4, .int (nI (nSt T N may (skB T N ax)))), (5, .int (((10 * v) + (bh T N y)) - 48))] := lv_sub hl [1, 2, 3, 4, 0] rfl
              exact ih_5 (y + 1) (((10 * v) + (bh T N y)) - 48) (by exact fig_N hfg) (by first | assumption | omega | exact skB_N ha | exact (nSt_N (skB_N ha)).2) (by first | assumption | omega | exact skB_N ha | exact (nSt_N (skB_N ha)).2) (by rw [show 3 - (y - nSt T N may (skB T N ax)) = (3 - (y + 1 - nSt T N may (skB T N ax))) + 1 by omega, dg_s hfg] at hI; exact hI) (by have := fig_N hfg; omega) H locs hP hD hS ls hl9
      have hl9 : lv_has ls 6 [(0, .ref m0), (1, .int (nI w)), (3, .int (bI (neg T N may (skB T N ax)))), (4, .int (nI (nSt T N may (skB T N ax)))), (5, .int 0)] := lv_sub hl [3, 4, 2, 1, 0] rfl
      exact lp_4 ((N - (nSt T N may (skB T N ax))) + 1) (nSt T N may (skB T N ax)) 0 (by first | assumption | omega | exact skB_N ha | exact (nSt_N (skB_N ha)).2) (by first | assumption | omega | exact skB_N ha | exact (nSt_N (skB_N ha)).2) (by first | assumption | omega | exact skB_N ha | exact (nSt_N (skB_N ha)).2) (by rw [Nat.sub_self]) (Nat.lt_succ_self _) H locs hP hD hS ls hl9
    refine lv_aload_n hx hb dX5_readNumber_39 rfl (lv_at hl 1 rfl) ?_
    refine lv_dup hx hb dX5_readNumber_40 rfl ?_
    refine va_get (D := D) (ci := 5) (v := .int (nI (skB T N ax))) (C := RX5) (T := TX5) (N := 16) hx hb hts in_X5_readNumber_5 hown hK hP 0 rfl rfl 7 (by decide) (hts (.fieldLink RX5 168 "HoseSpansModel" "at" "I") (List.mem_of_getElem? (i := 1) (by decide +kernel))) (fun _ h9 => h9) rfl dX5_readNumber_41 ?_
    refine lv_iload_n hx hb dX5_readNumber_44 rfl (lv_at hl 0 rfl) ?_
    refine lv_if_eq (tgt := 52) hx hb dX5_readNumber_45 (by decide) (fun c_15 => ?_) (fun c_15 => ?_)
    · have c_15 := bI_0.mp c_15
      refine lv_iconst (v := 0) hx hb dX5_readNumber_52 (by decide) ?_
      refine lv_iadd hx hb dX5_readNumber_53 ?_
      refine e_n (y := nI (skB T N ax + 0)) (nI_add (skB T N ax) 0) ?_
      refine va_put (D := D) (ci := 5) (v := .int (nI (skB T N ax + 0))) (ty := .int) (C := RX5) (T := TX5) (N := 16) hx hb hts in_X5_readNumber_5 tyX5 tyX5_ok nmX5 hown hK hP hD hS 0 rfl rfl 7 (by decide) (hts (.fieldLink RX5 168 "HoseSpansModel" "at" "I") (List.mem_of_getElem? (i := 1) (by decide +kernel))) (fun _ h9 => h9) rfl (by decide +kernel) rfl rfl (Nat.le_of_ble_eq_true rfl) dX5_readNumber_54 (fun H locs hP hD hS => ?_)
      have hP : va_P D vwCl [(m0, .inr (5, [.ref g0, .ref g1, .ref g2, .int (nI ms), .ref g3, .ref g4, .int (nI N), .int (nI (skB T N ax + 0)), .ref g5, .ref g6, .int fa, .int ho, .int la, .int fs, .ref g7, .ref g8])), (g4, .inl (cI, 120, .inl T)), (g7, .inl (cI, 4, .inl sd))] H := hP
      have hD : va_D AM [(m0, .inr (5, [.ref g0, .ref g1, .ref g2, .int (nI ms), .ref g3, .ref g4, .int (nI N), .int (nI (skB T N ax + 0)), .ref g5, .ref g6, .int fa, .int ho, .int la, .int fs, .ref g7, .ref g8])), (g4, .inl (cI, 120, .inl T)), (g7, .inl (cI, 4, .inl sd))] := hD
      rw [show (.int (nI (skB T N ax + 0)) : Value) = .int (nI (nSt T N may (skB T N ax))) from congrArg Value.int (congrArg nI (by first | exact (nSt_f (by assumption)).symm | exact (nSt_t (by assumption)).symm))] at hP hD
      have hP : va_P D vwCl [(m0, .inr (5, [.ref g0, .ref g1, .ref g2, .int (nI ms), .ref g3, .ref g4, .int (nI N), .int (nI (nSt T N may (skB T N ax))), .ref g5, .ref g6, .int fa, .int ho, .int la, .int fs, .ref g7, .ref g8])), (g4, .inl (cI, 120, .inl T)), (g7, .inl (cI, 4, .inl sd))] H := hP
      have hD : va_D AM [(m0, .inr (5, [.ref g0, .ref g1, .ref g2, .int (nI ms), .ref g3, .ref g4, .int (nI N), .int (nI (nSt T N may (skB T N ax))), .ref g5, .ref g6, .int fa, .int ho, .int la, .int fs, .ref g7, .ref g8])), (g4, .inl (cI, 120, .inl T)), (g7, .inl (cI, 4, .inl sd))] := hD
      exact jn_3  H locs hP hD hS ls (lv_sub hl [0, 1, 2, 3] rfl)
    · have c_15 := bI_n0.mp c_15
      refine lv_iconst (v := 1) hx hb dX5_readNumber_48 (by decide) ?_
      refine lv_goto (tgt := 53) hx hb dX5_readNumber_49 (by decide) ?_
      refine lv_iadd hx hb dX5_readNumber_53 ?_
      refine e_n (y := nI (skB T N ax + 1)) (nI_add (skB T N ax) 1) ?_
      refine va_put (D := D) (ci := 5) (v := .int (nI (skB T N ax + 1))) (ty := .int) (C := RX5) (T := TX5) (N := 16) hx hb hts in_X5_readNumber_5 tyX5 tyX5_ok nmX5 hown hK hP hD hS 0 rfl rfl 7 (by decide) (hts (.fieldLink RX5 168 "HoseSpansModel" "at" "I") (List.mem_of_getElem? (i := 1) (by decide +kernel))) (fun _ h9 => h9) rfl (by decide +kernel) rfl rfl (Nat.le_of_ble_eq_true rfl) dX5_readNumber_54 (fun H locs hP hD hS => ?_)
      have hP : va_P D vwCl [(m0, .inr (5, [.ref g0, .ref g1, .ref g2, .int (nI ms), .ref g3, .ref g4, .int (nI N), .int (nI (skB T N ax + 1)), .ref g5, .ref g6, .int fa, .int ho, .int la, .int fs, .ref g7, .ref g8])), (g4, .inl (cI, 120, .inl T)), (g7, .inl (cI, 4, .inl sd))] H := hP
      have hD : va_D AM [(m0, .inr (5, [.ref g0, .ref g1, .ref g2, .int (nI ms), .ref g3, .ref g4, .int (nI N), .int (nI (skB T N ax + 1)), .ref g5, .ref g6, .int fa, .int ho, .int la, .int fs, .ref g7, .ref g8])), (g4, .inl (cI, 120, .inl T)), (g7, .inl (cI, 4, .inl sd))] := hD
      rw [show (.int (nI (skB T N ax + 1)) : Value) = .int (nI (nSt T N may (skB T N ax))) from congrArg Value.int (congrArg nI (by first | exact (nSt_f (by assumption)).symm | exact (nSt_t (by assumption)).symm))] at hP hD
      have hP : va_P D vwCl [(m0, .inr (5, [.ref g0, .ref g1, .ref g2, .int (nI ms), .ref g3, .ref g4, .int (nI N), .int (nI (nSt T N may (skB T N ax))), .ref g5, .ref g6, .int fa, .int ho, .int la, .int fs, .ref g7, .ref g8])), (g4, .inl (cI, 120, .inl T)), (g7, .inl (cI, 4, .inl sd))] H := hP
      have hD : va_D AM [(m0, .inr (5, [.ref g0, .ref g1, .ref g2, .int (nI ms), .ref g3, .ref g4, .int (nI N), .int (nI (nSt T N may (skB T N ax))), .ref g5, .ref g6, .int fa, .int ho, .int la, .int fs, .ref g7, .ref g8])), (g4, .inl (cI, 120, .inl T)), (g7, .inl (cI, 4, .inl sd))] := hD
      exact jn_3  H locs hP hD hS ls (lv_sub hl [0, 1, 2, 3] rfl)
  refine lv_iload_n hx hb dX5_readNumber_4 rfl (lv_at hl 2 rfl) ?_
  refine lv_if_eq (tgt := 37) hx hb dX5_readNumber_5 (by decide) (fun c_16 => ?_) (fun c_16 => ?_)
  · have c_16 := bI_0.mp c_16
    refine lv_iconst (v := 0) hx hb dX5_readNumber_37 (by decide) ?_
    refine e_n (y := bI (neg T N may (skB T N ax))) (by first | exact bI_f (neg_1 (by assumption)) | exact bI_f (neg_ge (by assumption)) | exact bI_f (neg_ne (by assumption) (by assumption)) | exact bI_t (neg_eq (by assumption) (by assumption) (by assumption))) ?_
    exact jn_2  H locs hP hD hS ls (lv_sub hl [0, 1, 2] rfl)
  · have c_16 := bI_n0.mp c_16
    refine lv_aload_n hx hb dX5_readNumber_8 rfl (lv_at hl 0 rfl) ?_
    refine va_get (D := D) (ci := 5) (v := .int (nI (skB T N ax))) (C := RX5) (T := TX5) (N := 16) hx hb hts in_X5_readNumber_5 hown hK hP 0 rfl rfl 7 (by decide) (hts (.fieldLink RX5 168 "HoseSpansModel" "at" "I") (List.mem_of_getElem? (i := 1) (by decide +kernel))) (fun _ h9 => h9) rfl dX5_readNumber_9 ?_
    refine lv_aload_n hx hb dX5_readNumber_12 rfl (lv_at hl 0 rfl) ?_
    refine va_get (D := D) (ci := 5) (v := .int (nI N)) (C := RX5) (T := TX5) (N := 16) hx hb hts in_X5_readNumber_5 hown hK hP 0 rfl rfl 6 (by decide) (hts (.fieldLink RX5 165 "HoseSpansModel" "bytes" "I") (List.mem_of_getElem? (i := 2) (by decide +kernel))) (fun _ h9 => h9) rfl dX5_readNumber_13 ?_
    refine lv_icmp_ge (tgt := 37) hx hb dX5_readNumber_16 (by decide) (fun c_17 => ?_) (fun c_17 => ?_)
    · have c_17 := Int32.not_lt.mpr c_17
      have c_17 : ¬ (skB T N ax) < N := fun h => c_17 ((nI_ltI (a := (skB T N ax)) (b := N) (by omega) (by omega)).mpr h)
      refine lv_iconst (v := 0) hx hb dX5_readNumber_37 (by decide) ?_
      refine e_n (y := bI (neg T N may (skB T N ax))) (by first | exact bI_f (neg_1 (by assumption)) | exact bI_f (neg_ge (by assumption)) | exact bI_f (neg_ne (by assumption) (by assumption)) | exact bI_t (neg_eq (by assumption) (by assumption) (by assumption))) ?_
      exact jn_2  H locs hP hD hS ls (lv_sub hl [0, 1, 2] rfl)
    · have c_17 := Int32.not_le.mp c_17
      have c_17 : (skB T N ax) < N := (nI_ltI (by omega) (by omega)).mp c_17
      refine lv_aload_n hx hb dX5_readNumber_19 rfl (lv_at hl 0 rfl) ?_
      refine va_get (D := D) (ci := 5) (v := .ref g4) (C := RX5) (T := TX5) (N := 16) hx hb hts in_X5_readNumber_5 hown hK hP 0 rfl rfl 5 (by decide) (hts (.fieldLink RX5 22 "HoseSpansModel" "text" "[I") (List.mem_of_getElem? (i := 3) (by decide +kernel))) (fun _ h9 => h9) rfl dX5_readNumber_20 ?_
      refine lv_aload_n hx hb dX5_readNumber_23 rfl (lv_at hl 0 rfl) ?_
      refine va_get (D := D) (ci := 5) (v := .int (nI (skB T N ax))) (C := RX5) (T := TX5) (N := 16) hx hb hts in_X5_readNumber_5 hown hK hP 0 rfl rfl 7 (by decide) (hts (.fieldLink RX5 168 "HoseSpansModel" "at" "I") (List.mem_of_getElem? (i := 1) (by decide +kernel))) (fun _ h9 => h9) rfl dX5_readNumber_24 ?_
      refine va_iald hx hb hK hP 1 0 rfl rfl (vp_in_nI (by omega) (by decide)) dX5_readNumber_27 ?_
      refine e_n (y := T (skB T N ax)) (congrArg T (nI_clamp (by omega))) ?_
      refine lv_bipush (v := 45) hx hb dX5_readNumber_28 (by decide) ?_
      refine lv_icmp_ne (tgt := 37) hx hb dX5_readNumber_30 (by decide) (fun c_18 => ?_) (fun c_18 => ?_)
      · refine lv_iconst (v := 0) hx hb dX5_readNumber_37 (by decide) ?_
        refine e_n (y := bI (neg T N may (skB T N ax))) (by first | exact bI_f (neg_1 (by assumption)) | exact bI_f (neg_ge (by assumption)) | exact bI_f (neg_ne (by assumption) (by assumption)) | exact bI_t (neg_eq (by assumption) (by assumption) (by assumption))) ?_
        exact jn_2  H locs hP hD hS ls (lv_sub hl [0, 1, 2] rfl)
      · refine lv_iconst (v := 1) hx hb dX5_readNumber_33 (by decide) ?_
        refine lv_goto (tgt := 38) hx hb dX5_readNumber_34 (by decide) ?_
        refine e_n (y := bI (neg T N may (skB T N ax))) (by first | exact bI_f (neg_1 (by assumption)) | exact bI_f (neg_ge (by assumption)) | exact bI_f (neg_ne (by assumption) (by assumption)) | exact bI_t (neg_eq (by assumption) (by assumption) (by assumption))) ?_
        exact jn_2  H locs hP hD hS ls (lv_sub hl [0, 1, 2] rfl)
set_option maxHeartbeats 4000000 in
set_option maxRecDepth 100000 in
theorem c_X5_numbersOf (l : Launch) (D : va_G) (cI cB cO : ClassId) (sz : Nat) (c : Int32)  : CI l yX5_numbersOf wsX5_numbersOf ({ frames := 0, cells := 0, slots := 0, locals := 0 } : Room) D (tyL cI cB cO) [.int c] [] sz (fun (r : Int32) (_ : Unit) => r = nWm c) (fun (u : Unit) => []) 0 0 := by
  refine ct_of (cc := cX5_numbersOf) (maxL := 1) (ret := some .int) (own := RX5) (Qc := QI D (fun (r : Int32) (_ : Unit) => r = nWm c) (fun (u : Unit) => [])) (by decide) rfl rfl (Nat.le_of_ble_eq_true rfl) ?_
  intro pM eM sM mM below meth cM AM ls H locs hx hb hr hts hown hlocks hml hin hK hP hD hS hA hSt hl
  have hl : lv_has ls 1 [(0, .int c)] := hl
  refine lv_iload_n hx hb dX5_numbersOf_0 rfl (lv_at hl 0 rfl) ?_
  refine lv_bipush (v := 104) hx hb dX5_numbersOf_1 (by decide) ?_
  refine lv_icmp_ne (tgt := 10) hx hb dX5_numbersOf_3 (by decide) (fun c_1 => ?_) (fun c_1 => ?_)
  · refine lv_iload_n hx hb dX5_numbersOf_10 rfl (lv_at hl 0 rfl) ?_
    refine lv_bipush (v := 107) hx hb dX5_numbersOf_11 (by decide) ?_
    refine lv_icmp_ne (tgt := 20) hx hb dX5_numbersOf_13 (by decide) (fun c_2 => ?_) (fun c_2 => ?_)
    · refine lv_iload_n hx hb dX5_numbersOf_20 rfl (lv_at hl 0 rfl) ?_
      refine lv_bipush (v := 112) hx hb dX5_numbersOf_21 (by decide) ?_
      refine lv_icmp_eq (tgt := 38) hx hb dX5_numbersOf_23 (by decide) (fun c_3 => ?_) (fun c_3 => ?_)
      · refine lv_iconst (v := 1) hx hb dX5_numbersOf_38 (by decide) ?_
        refine lv_goto (tgt := 54) hx hb dX5_numbersOf_39 (by decide) ?_
        refine e_i (u := ()) hx hb hr hlocks hP hD hS dX5_numbersOf_54 ?_ ?_
        · rfl
        · first | (rw [show c = 104 by assumption]; decide) | (rw [show c = 107 by assumption]; decide) | (rw [show c = 112 by assumption]; decide) | (rw [show c = 120 by assumption]; decide) | (rw [show c = 109 by assumption]; decide) | (rw [show c = 99 by assumption]; decide) | exact nWm_d (by assumption) (by assumption) (by assumption) (by assumption) (by assumption) (by assumption)
      · refine lv_iload_n hx hb dX5_numbersOf_26 rfl (lv_at hl 0 rfl) ?_
        refine lv_bipush (v := 120) hx hb dX5_numbersOf_27 (by decide) ?_
        refine lv_icmp_eq (tgt := 38) hx hb dX5_numbersOf_29 (by decide) (fun c_4 => ?_) (fun c_4 => ?_)
        · refine lv_iconst (v := 1) hx hb dX5_numbersOf_38 (by decide) ?_
          refine lv_goto (tgt := 54) hx hb dX5_numbersOf_39 (by decide) ?_
          refine e_i (u := ()) hx hb hr hlocks hP hD hS dX5_numbersOf_54 ?_ ?_
          · rfl
          · first | (rw [show c = 104 by assumption]; decide) | (rw [show c = 107 by assumption]; decide) | (rw [show c = 112 by assumption]; decide) | (rw [show c = 120 by assumption]; decide) | (rw [show c = 109 by assumption]; decide) | (rw [show c = 99 by assumption]; decide) | exact nWm_d (by assumption) (by assumption) (by assumption) (by assumption) (by assumption) (by assumption)
        · refine lv_iload_n hx hb dX5_numbersOf_32 rfl (lv_at hl 0 rfl) ?_
          refine lv_bipush (v := 109) hx hb dX5_numbersOf_33 (by decide) ?_
          refine lv_icmp_ne (tgt := 42) hx hb dX5_numbersOf_35 (by decide) (fun c_5 => ?_) (fun c_5 => ?_)
          · refine lv_iload_n hx hb dX5_numbersOf_42 rfl (lv_at hl 0 rfl) ?_
            refine lv_bipush (v := 99) hx hb dX5_numbersOf_43 (by decide) ?_
            refine lv_icmp_ne (tgt := 52) hx hb dX5_numbersOf_45 (by decide) (fun c_6 => ?_) (fun c_6 => ?_)
            · refine lv_ldc (v := -1000001) hx hb hown (hts (.constant RX5 74 (-1000001)) (List.mem_of_getElem? (i := 1) (by decide +kernel))) dX5_numbersOf_52 ?_
              refine e_i (u := ()) hx hb hr hlocks hP hD hS dX5_numbersOf_54 ?_ ?_
              · rfl
              · first | (rw [show c = 104 by assumption]; decide) | (rw [show c = 107 by assumption]; decide) | (rw [show c = 112 by assumption]; decide) | (rw [show c = 120 by assumption]; decide) | (rw [show c = 109 by assumption]; decide) | (rw [show c = 99 by assumption]; decide) | exact nWm_d (by assumption) (by assumption) (by assumption) (by assumption) (by assumption) (by assumption)
            · refine lv_iconst (v := 0) hx hb dX5_numbersOf_48 (by decide) ?_
              refine lv_goto (tgt := 54) hx hb dX5_numbersOf_49 (by decide) ?_
              refine e_i (u := ()) hx hb hr hlocks hP hD hS dX5_numbersOf_54 ?_ ?_
              · rfl
              · first | (rw [show c = 104 by assumption]; decide) | (rw [show c = 107 by assumption]; decide) | (rw [show c = 112 by assumption]; decide) | (rw [show c = 120 by assumption]; decide) | (rw [show c = 109 by assumption]; decide) | (rw [show c = 99 by assumption]; decide) | exact nWm_d (by assumption) (by assumption) (by assumption) (by assumption) (by assumption) (by assumption)
          · refine lv_iconst (v := 1) hx hb dX5_numbersOf_38 (by decide) ?_
            refine lv_goto (tgt := 54) hx hb dX5_numbersOf_39 (by decide) ?_
            refine e_i (u := ()) hx hb hr hlocks hP hD hS dX5_numbersOf_54 ?_ ?_
            · rfl
            · first | (rw [show c = 104 by assumption]; decide) | (rw [show c = 107 by assumption]; decide) | (rw [show c = 112 by assumption]; decide) | (rw [show c = 120 by assumption]; decide) | (rw [show c = 109 by assumption]; decide) | (rw [show c = 99 by assumption]; decide) | exact nWm_d (by assumption) (by assumption) (by assumption) (by assumption) (by assumption) (by assumption)
    · refine lv_iconst (v := 2) hx hb dX5_numbersOf_16 (by decide) ?_
      refine lv_goto (tgt := 54) hx hb dX5_numbersOf_17 (by decide) ?_
      refine e_i (u := ()) hx hb hr hlocks hP hD hS dX5_numbersOf_54 ?_ ?_
      · rfl
      · first | (rw [show c = 104 by assumption]; decide) | (rw [show c = 107 by assumption]; decide) | (rw [show c = 112 by assumption]; decide) | (rw [show c = 120 by assumption]; decide) | (rw [show c = 109 by assumption]; decide) | (rw [show c = 99 by assumption]; decide) | exact nWm_d (by assumption) (by assumption) (by assumption) (by assumption) (by assumption) (by assumption)
  · refine lv_iconst (v := 4) hx hb dX5_numbersOf_6 (by decide) ?_
    refine lv_goto (tgt := 54) hx hb dX5_numbersOf_7 (by decide) ?_
    refine e_i (u := ()) hx hb hr hlocks hP hD hS dX5_numbersOf_54 ?_ ?_
    · rfl
    · first | (rw [show c = 104 by assumption]; decide) | (rw [show c = 107 by assumption]; decide) | (rw [show c = 112 by assumption]; decide) | (rw [show c = 120 by assumption]; decide) | (rw [show c = 109 by assumption]; decide) | (rw [show c = 99 by assumption]; decide) | exact nWm_d (by assumption) (by assumption) (by assumption) (by assumption) (by assumption) (by assumption)
theorem in_X5_readOrder_5 : ∀ w ∈ wsX50, w ∈ wsX5_readOrder := fun _ h => List.mem_cons_of_mem _ (List.mem_append_right _ h)
set_option maxHeartbeats 4000000 in
set_option maxRecDepth 100000 in
theorem c_X5_readOrder (l : Launch) (D : va_G) (cI cB cO : ClassId) (sz : Nat) (m0 g0 g1 g2 g3 g4 g5 g6 g7 g8 ms N ax : Nat) (fa ho la fs : Int32) (T : Nat → Int32) (sd : Nat → Int32) (c : Int32) (hN : N ≤ 120) (ha : ax ≤ N) (hc : c = bh T N ax) : CI l yX5_readOrder wsX5_readOrder ({ frames := 3, cells := 0, slots := 0, locals := 67 } : Room) D (tyL cI cB cO) [.ref m0, .int c] [(m0, .inr (5, [.ref g0, .ref g1, .ref g2, .int (nI ms), .ref g3, .ref g4, .int (nI N), .int (nI ax), .ref g5, .ref g6, .int fa, .int ho, .int la, .int fs, .ref g7, .ref g8])), (g4, .inl (cI, 120, .inl T)), (g7, .inl (cI, 4, .inl sd))] sz (fun (ans : Int32) (u : Nat → Int32) => ans = bI (ordR T N ax).1 ∧ ((ordR T N ax).1 = true → ∀ k, k < nW (bh T N ax) → u k = oV T N ax k)) (fun (u : Nat → Int32) => [(m0, .inr (5, [.ref g0, .ref g1, .ref g2, .int (nI ms), .ref g3, .ref g4, .int (nI N), .int (nI (onOk (ordR T N ax).1 (skB T N (ordR T N ax).2) (ordR T N ax).2)), .ref g5, .ref g6, .int fa, .int ho, .int la, .int fs, .ref g7, .ref g8])), (g4, .inl (cI, 120, .inl T)), (g7, .inl (cI, 4, .inl u))]) 0 0 := by
  refine ct_of (cc := cX5_readOrder) (maxL := 4) (ret := some .boolean) (own := RX5) (Qc := QI D (fun (ans : Int32) (u : Nat → Int32) => ans = bI (ordR T N ax).1 ∧ ((ordR T N ax).1 = true → ∀ k, k < nW (bh T N ax) → u k = oV T N ax k)) (fun (u : Nat → Int32) => [(m0, .inr (5, [.ref g0, .ref g1, .ref g2, .int (nI ms), .ref g3, .ref g4, .int (nI N), .int (nI (onOk (ordR T N ax).1 (skB T N (ordR T N ax).2) (ordR T N ax).2)), .ref g5, .ref g6, .int fa, .int ho, .int la, .int fs, .ref g7, .ref g8])), (g4, .inl (cI, 120, .inl T)), (g7, .inl (cI, 4, .inl u))])) (by decide) rfl rfl (Nat.le_of_ble_eq_true rfl) ?_
  intro pM eM sM mM below meth cM AM ls H locs hx hb hr hts hown hlocks hml hin hK hP hD hS hA hSt hl
  have hl : lv_has ls 4 [(0, .ref m0), (1, .int c)] := hl
  subst hc
  refine lv_iload_n hx hb dX5_readOrder_0 rfl (lv_at hl 1 rfl) ?_
  refine k_i (va_runS (As := [.int (bh T N ax)]) (rest := []) ⟨hx, hb, hml, hown, hts⟩ (c_X5_numbersOf l D cI cB cO H.size (bh T N ax) ) (va_cwS 1 hts gX5_readOrder_X5_numbersOf rfl rfl rfl (by decide +kernel) ⟨Nat.le_of_ble_eq_true rfl, Nat.le_of_ble_eq_true rfl⟩) (preS_of hK hP hD hS hA hSt [] (by decide) rfl) rfl rfl hl.1 rfl (lv_room (Nat.le_of_ble_eq_true rfl)) dX5_readOrder_1 ⟨Nat.le_of_ble_eq_true rfl, Nat.le_of_ble_eq_true rfl⟩) hP hD hS hA [] [0, 1, 2] [0, 1, 2] [(m0, .inr (5, [.ref g0, .ref g1, .ref g2, .int (nI ms), .ref g3, .ref g4, .int (nI N), .int (nI ax), .ref g5, .ref g6, .int fa, .int ho, .int la, .int fs, .ref g7, .ref g8])), (g4, .inl (cI, 120, .inl T)), (g7, .inl (cI, 4, .inl sd))] (fun (u_1 : Unit) => [(m0, .inr (5, [.ref g0, .ref g1, .ref g2, .int (nI ms), .ref g3, .ref g4, .int (nI N), .int (nI ax), .ref g5, .ref g6, .int fa, .int ho, .int la, .int fs, .ref g7, .ref g8])), (g4, .inl (cI, 120, .inl T)), (g7, .inl (cI, 4, .inl sd))]) rfl rfl (by decide) (by decide) (by decide) (fun _ => rfl) (fun r_1 u_1 H locs q_1 hP hD hS => ?_)
  obtain rfl : r_1 = nWm (bh T N ax) := q_1
  by_cases hw5 : nW (bh T N ax) = 5
  · refine e_n (y := -1000001) (nWm_5 hw5) ?_
    refine lv_istore_n (lv' := [(2, .int (-1000001)), (0, .ref m0), (1, .int (bh T N ax))]) hx hb dX5_readOrder_4 rfl hl (by decide) rfl (fun ls hl => ?_)
    refine lv_iload_n hx hb dX5_readOrder_5 rfl (lv_at hl 0 rfl) ?_
    refine lv_ldc (v := -1000001) hx hb hown (hts (.constant RX5 74 (-1000001)) (List.mem_of_getElem? (i := 1) (by decide +kernel))) dX5_readOrder_6 ?_
    refine lv_icmp_ne (tgt := 13) hx hb dX5_readOrder_8 (by decide) (fun c_2 => ?_) (fun c_2 => ?_)
    · exact absurd rfl c_2
    · have hF : (false, ax) = (ordR T N ax) := (ordR_b hw5).symm
      rw [show (.int (nI ax) : Value) = .int (nI (onOk (ordR T N ax).1 (skB T N (ordR T N ax).2) (ordR T N ax).2)) from congrArg Value.int (congrArg nI (by unfold onOk; rw [← hF]; rfl))] at hP hD
      have hP : va_P D vwCl [(m0, .inr (5, [.ref g0, .ref g1, .ref g2, .int (nI ms), .ref g3, .ref g4, .int (nI N), .int (nI (onOk (ordR T N ax).1 (skB T N (ordR T N ax).2) (ordR T N ax).2)), .ref g5, .ref g6, .int fa, .int ho, .int la, .int fs, .ref g7, .ref g8])), (g4, .inl (cI, 120, .inl T)), (g7, .inl (cI, 4, .inl sd))] H := hP
      have hD : va_D AM [(m0, .inr (5, [.ref g0, .ref g1, .ref g2, .int (nI ms), .ref g3, .ref g4, .int (nI N), .int (nI (onOk (ordR T N ax).1 (skB T N (ordR T N ax).2) (ordR T N ax).2)), .ref g5, .ref g6, .int fa, .int ho, .int la, .int fs, .ref g7, .ref g8])), (g4, .inl (cI, 120, .inl T)), (g7, .inl (cI, 4, .inl sd))] := hD
      refine lv_iconst (v := 0) hx hb dX5_readOrder_11 (by decide) ?_
      refine e_z (u := sd) hx hb hr (by first | rfl | exact bI_nar _) hlocks hP hD hS dX5_readOrder_12 ?_ ?_
      · rfl
      · exact ⟨by rw [← hF]; rfl, fun h => by rw [← hF] at h; cases h⟩
  · refine e_n (y := nI (nW (bh T N ax))) (nWm_n hw5) ?_
    refine lv_istore_n (lv' := [(2, .int (nI (nW (bh T N ax)))), (0, .ref m0), (1, .int (bh T N ax))]) hx hb dX5_readOrder_4 rfl hl (by decide) rfl (fun ls hl => ?_)
    refine lv_iload_n hx hb dX5_readOrder_5 rfl (lv_at hl 0 rfl) ?_
    refine lv_ldc (v := -1000001) hx hb hown (hts (.constant RX5 74 (-1000001)) (List.mem_of_getElem? (i := 1) (by decide +kernel))) dX5_readOrder_6 ?_
    refine lv_icmp_ne (tgt := 13) hx hb dX5_readOrder_8 (by decide) (fun c_3 => ?_) (fun c_3 => ?_)
    · have h4 := nW_4 hw5
      have hlt : ax < N := W_lt hw5
      refine lv_aload_n hx hb dX5_readOrder_13 rfl (lv_at hl 1 rfl) ?_
      refine lv_dup hx hb dX5_readOrder_14 rfl ?_
      refine va_get (D := D) (ci := 5) (v := .int (nI ax)) (C := RX5) (T := TX5) (N := 16) hx hb hts in_X5_readOrder_5 hown hK hP 0 rfl rfl 7 (by decide) (hts (.fieldLink RX5 168 "HoseSpansModel" "at" "I") (List.mem_of_getElem? (i := 2) (by decide +kernel))) (fun _ h9 => h9) rfl dX5_readOrder_15 ?_
      refine lv_iconst (v := 1) hx hb dX5_readOrder_18 (by decide) ?_
      refine lv_iadd hx hb dX5_readOrder_19 ?_
      refine e_n (y := nI (ax + 1)) (nI_add ax 1) ?_
      refine va_put (D := D) (ci := 5) (v := .int (nI (ax + 1))) (ty := .int) (C := RX5) (T := TX5) (N := 16) hx hb hts in_X5_readOrder_5 tyX5 tyX5_ok nmX5 hown hK hP hD hS 0 rfl rfl 7 (by decide) (hts (.fieldLink RX5 168 "HoseSpansModel" "at" "I") (List.mem_of_getElem? (i := 2) (by decide +kernel))) (fun _ h9 => h9) rfl (by decide +kernel) rfl rfl (Nat.le_of_ble_eq_true rfl) dX5_readOrder_20 (fun H locs hP hD hS => ?_)
      have hP : va_P D vwCl [(m0, .inr (5, [.ref g0, .ref g1, .ref g2, .int (nI ms), .ref g3, .ref g4, .int (nI N), .int (nI (ax + 1)), .ref g5, .ref g6, .int fa, .int ho, .int la, .int fs, .ref g7, .ref g8])), (g4, .inl (cI, 120, .inl T)), (g7, .inl (cI, 4, .inl sd))] H := hP
      have hD : va_D AM [(m0, .inr (5, [.ref g0, .ref g1, .ref g2, .int (nI ms), .ref g3, .ref g4, .int (nI N), .int (nI (ax + 1)), .ref g5, .ref g6, .int fa, .int ho, .int la, .int fs, .ref g7, .ref g8])), (g4, .inl (cI, 120, .inl T)), (g7, .inl (cI, 4, .inl sd))] := hD
      refine lv_iconst (v := 0) hx hb dX5_readOrder_23 (by decide) ?_
      refine lv_istore_n (lv' := [(3, .int 0), (2, .int (nI (nW (bh T N ax)))), (0, .ref m0), (1, .int (bh T N ax))]) hx hb dX5_readOrder_24 rfl hl (by decide) rfl (fun ls hl => ?_)
      have lp_4 : ∀ (nn : Nat) (w y : Nat) (sx : Nat → Int32), (w ≤ nW (bh T N ax)) → (y ≤ N) → (oGo T N (bh T N ax) (nW (bh T N ax) - w) w y = (ordR T N ax)) → (y = nPos T N ax w) → (∀ k, k < w → sx k = oV T N ax k) → (nW (bh T N ax) - w) < nn → ∀ (H : Heap) (locs : List Loc), va_P D vwCl [(m0, .inr (5, [.ref g0, .ref g1, .ref g2, .int (nI ms), .ref g3, .ref g4, .int (nI N), .int (nI y), .ref g5, .ref g6, .int fa, .int ho, .int la, .int fs, .ref g7, .ref g8])), (g4, .inl (cI, 120, .inl T)), (g7, .inl (cI, 4, .inl sx))] H → va_D AM [(m0, .inr (5, [.ref g0, .ref g1, .ref g2, .int (nI ms), .ref g3, .ref g4, .int (nI N), .int (nI y), .ref g5, .ref g6, .int fa, .int ho, .int la, .int fs, .ref g7, .ref g8])), (g4, .inl (cI, 120, .inl T)), (g7, .inl (cI, 4, .inl sx))] → va_S AM sM.heap H locs → ∀ (ls : Array Slot), lv_has ls 4 [(0, .ref m0), (1, .int (bh T N ax)), (2, .int (nI (nW (bh T N ax)))), (3, .int (nI w))] → W pM l eM ({ frames := 3, cells := 0, slots := 0, locals := 67 } : Room) sM mM ([.ref m0, .int (bh T N ax)] : List Value).toArray below meth cM H locs 0 0 (MQ below (QI D (fun (ans : Int32) (u : Nat → Int32) => ans = bI (ordR T N ax).1 ∧ ((ordR T N ax).1 = true → ∀ k, k < nW (bh T N ax) → u k = oV T N ax k)) (fun (u : Nat → Int32) => [(m0, .inr (5, [.ref g0, .ref g1, .ref g2, .int (nI ms), .ref g3, .ref g4, .int (nI N), .int (nI (onOk (ordR T N ax).1 (skB T N (ordR T N ax).2) (ordR T N ax).2)), .ref g5, .ref g6, .int fa, .int ho, .int la, .int fs, .ref g7, .ref g8])), (g4, .inl (cI, 120, .inl T)), (g7, .inl (cI, 4, .inl u))]) AM) ([.ref m0, .int (bh T N ax)] : List Value).toArray sM 0 0 AM) (F0 mM 25 ls []) := by
        intro nn
        induction nn with
        | zero =>
          intro w y sx hw hy hI hp hv hm
          exact absurd hm (Nat.not_lt_zero _)
        | succ nn ih_5 =>
          intro w y sx hw hy hI hp hv hm H locs hP hD hS ls hl
          refine lv_iload_n hx hb dX5_readOrder_25 rfl (lv_at hl 3 rfl) ?_
          refine lv_iload_n hx hb dX5_readOrder_26 rfl (lv_at hl 2 rfl) ?_
          refine lv_icmp_ge (tgt := 56) hx hb dX5_readOrder_27 (by decide) (fun c_6 => ?_) (fun c_6 => ?_)
          · have c_6 := Int32.not_lt.mpr c_6
            have hwe : w = nW (bh T N ax) := by have h := mt (nI_ltI (a := w) (b := nW (bh T N ax)) (by omega) (by omega)).mpr c_6; omega
            refine lv_aload_n hx hb dX5_readOrder_56 rfl (lv_at hl 0 rfl) ?_
            refine k_v (va_runV (As := []) (rest := []) ⟨hx, hb, hml, hown, hts⟩ (c_X5_skip l D cI cB cO H.size m0 g0 g1 g2 g3 g4 g5 g6 g7 g8 ms N y fa ho la fs T (by first | assumption | omega | exact skB_N (by assumption)) (by first | assumption | omega | exact skB_N (by assumption))) (cwV 0 hts gX5_readOrder_X5_skip rfl rfl rfl (by decide +kernel) ⟨Nat.le_of_ble_eq_true rfl, Nat.le_of_ble_eq_true rfl⟩) (preV_of hK hP hD hS hA hSt [0, 1] (by decide) rfl 0 (ci := 5) rfl rfl) rfl rfl hl.1 rfl (lv_room (Nat.le_of_ble_eq_true rfl)) dX5_readOrder_57 ⟨Nat.le_of_ble_eq_true rfl, Nat.le_of_ble_eq_true rfl⟩) hP hD hS hA [0, 1] [2] [1, 2, 0] [(g7, .inl (cI, 4, .inl sx))] (fun (u_7 : Unit) => [(m0, .inr (5, [.ref g0, .ref g1, .ref g2, .int (nI ms), .ref g3, .ref g4, .int (nI N), .int (nI (skB T N y)), .ref g5, .ref g6, .int fa, .int ho, .int la, .int fs, .ref g7, .ref g8])), (g4, .inl (cI, 120, .inl T)), (g7, .inl (cI, 4, .inl sx))]) rfl rfl (by decide) (by decide) (by decide) (fun _ => rfl) (fun u_7 H locs q_7 hP hD hS => ?_)
            have hsk := skB_N (T := T) hy
            refine lv_aload_n hx hb dX5_readOrder_60 rfl (lv_at hl 0 rfl) ?_
            refine va_get (D := D) (ci := 5) (v := .int (nI (skB T N y))) (C := RX5) (T := TX5) (N := 16) hx hb hts in_X5_readOrder_5 hown hK hP 0 rfl rfl 7 (by decide) (hts (.fieldLink RX5 168 "HoseSpansModel" "at" "I") (List.mem_of_getElem? (i := 2) (by decide +kernel))) (fun _ h9 => h9) rfl dX5_readOrder_61 ?_
            refine lv_aload_n hx hb dX5_readOrder_64 rfl (lv_at hl 0 rfl) ?_
            refine va_get (D := D) (ci := 5) (v := .int (nI N)) (C := RX5) (T := TX5) (N := 16) hx hb hts in_X5_readOrder_5 hown hK hP 0 rfl rfl 6 (by decide) (hts (.fieldLink RX5 165 "HoseSpansModel" "bytes" "I") (List.mem_of_getElem? (i := 3) (by decide +kernel))) (fun _ h9 => h9) rfl dX5_readOrder_65 ?_
            refine lv_icmp_eq (tgt := 85) hx hb dX5_readOrder_68 (by decide) (fun c_8 => ?_) (fun c_8 => ?_)
            · have hs59 : ¬ bh T N (skB T N y) = 59 := bh59_N (by have h := (nI_eq (by omega) (by omega)).mp c_8; omega)
              have hF : (false, skB T N y) = (ordR T N ax) := by rw [oGo_e hwe, if_neg hs59] at hI; exact hI
              rw [show (.int (nI (skB T N y)) : Value) = .int (nI (onOk (ordR T N ax).1 (skB T N (ordR T N ax).2) (ordR T N ax).2)) from congrArg Value.int (congrArg nI (by unfold onOk; rw [← hF]; rfl))] at hP hD
              have hP : va_P D vwCl [(m0, .inr (5, [.ref g0, .ref g1, .ref g2, .int (nI ms), .ref g3, .ref g4, .int (nI N), .int (nI (onOk (ordR T N ax).1 (skB T N (ordR T N ax).2) (ordR T N ax).2)), .ref g5, .ref g6, .int fa, .int ho, .int la, .int fs, .ref g7, .ref g8])), (g4, .inl (cI, 120, .inl T)), (g7, .inl (cI, 4, .inl sx))] H := hP
              have hD : va_D AM [(m0, .inr (5, [.ref g0, .ref g1, .ref g2, .int (nI ms), .ref g3, .ref g4, .int (nI N), .int (nI (onOk (ordR T N ax).1 (skB T N (ordR T N ax).2) (ordR T N ax).2)), .ref g5, .ref g6, .int fa, .int ho, .int la, .int fs, .ref g7, .ref g8])), (g4, .inl (cI, 120, .inl T)), (g7, .inl (cI, 4, .inl sx))] := hD
              refine lv_iconst (v := 0) hx hb dX5_readOrder_85 (by decide) ?_
              refine e_z (u := sx) hx hb hr (by first | rfl | exact bI_nar _) hlocks hP hD hS dX5_readOrder_86 ?_ ?_
              · rfl
              · exact ⟨by rw [← hF]; rfl, fun h => by rw [← hF] at h; cases h⟩
            · have hsl : skB T N y < N := by have h : ¬ skB T N y = N := fun h => c_8 (by rw [h]); have h2 := skB_N (T := T) hy; omega
              refine lv_aload_n hx hb dX5_readOrder_71 rfl (lv_at hl 0 rfl) ?_
              refine va_get (D := D) (ci := 5) (v := .ref g4) (C := RX5) (T := TX5) (N := 16) hx hb hts in_X5_readOrder_5 hown hK hP 0 rfl rfl 5 (by decide) (hts (.fieldLink RX5 22 "HoseSpansModel" "text" "[I") (List.mem_of_getElem? (i := 4) (by decide +kernel))) (fun _ h9 => h9) rfl dX5_readOrder_72 ?_
              refine lv_aload_n hx hb dX5_readOrder_75 rfl (lv_at hl 0 rfl) ?_
              refine va_get (D := D) (ci := 5) (v := .int (nI (skB T N y))) (C := RX5) (T := TX5) (N := 16) hx hb hts in_X5_readOrder_5 hown hK hP 0 rfl rfl 7 (by decide) (hts (.fieldLink RX5 168 "HoseSpansModel" "at" "I") (List.mem_of_getElem? (i := 2) (by decide +kernel))) (fun _ h9 => h9) rfl dX5_readOrder_76 ?_
              refine va_iald hx hb hK hP 1 0 rfl rfl (vp_in_nI (by omega) (by decide)) dX5_readOrder_79 ?_
              refine e_n (y := T (skB T N y)) (congrArg T (nI_clamp (by omega))) ?_
              refine lv_bipush (v := 59) hx hb dX5_readOrder_80 (by decide) ?_
              refine lv_icmp_eq (tgt := 87) hx hb dX5_readOrder_82 (by decide) (fun c_9 => ?_) (fun c_9 => ?_)
              · have hs59 := bh59_t hsl c_9
                have hF : (true, skB T N y + 1) = (ordR T N ax) := by rw [oGo_e hwe, if_pos hs59] at hI; exact hI
                refine lv_aload_n hx hb dX5_readOrder_87 rfl (lv_at hl 0 rfl) ?_
                refine lv_dup hx hb dX5_readOrder_88 rfl ?_
                refine va_get (D := D) (ci := 5) (v := .int (nI (skB T N y))) (C := RX5) (T := TX5) (N := 16) hx hb hts in_X5_readOrder_5 hown hK hP 0 rfl rfl 7 (by decide) (hts (.fieldLink RX5 168 "HoseSpansModel" "at" "I") (List.mem_of_getElem? (i := 2) (by decide +kernel))) (fun _ h9 => h9) rfl dX5_readOrder_89 ?_
                refine lv_iconst (v := 1) hx hb dX5_readOrder_92 (by decide) ?_
                refine lv_iadd hx hb dX5_readOrder_93 ?_
                refine e_n (y := nI (skB T N y + 1)) (nI_add (skB T N y) 1) ?_
                refine va_put (D := D) (ci := 5) (v := .int (nI (skB T N y + 1))) (ty := .int) (C := RX5) (T := TX5) (N := 16) hx hb hts in_X5_readOrder_5 tyX5 tyX5_ok nmX5 hown hK hP hD hS 0 rfl rfl 7 (by decide) (hts (.fieldLink RX5 168 "HoseSpansModel" "at" "I") (List.mem_of_getElem? (i := 2) (by decide +kernel))) (fun _ h9 => h9) rfl (by decide +kernel) rfl rfl (Nat.le_of_ble_eq_true rfl) dX5_readOrder_94 (fun H locs hP hD hS => ?_)
                have hP : va_P D vwCl [(m0, .inr (5, [.ref g0, .ref g1, .ref g2, .int (nI ms), .ref g3, .ref g4, .int (nI N), .int (nI (skB T N y + 1)), .ref g5, .ref g6, .int fa, .int ho, .int la, .int fs, .ref g7, .ref g8])), (g4, .inl (cI, 120, .inl T)), (g7, .inl (cI, 4, .inl sx))] H := hP
                have hD : va_D AM [(m0, .inr (5, [.ref g0, .ref g1, .ref g2, .int (nI ms), .ref g3, .ref g4, .int (nI N), .int (nI (skB T N y + 1)), .ref g5, .ref g6, .int fa, .int ho, .int la, .int fs, .ref g7, .ref g8])), (g4, .inl (cI, 120, .inl T)), (g7, .inl (cI, 4, .inl sx))] := hD
                refine lv_aload_n hx hb dX5_readOrder_97 rfl (lv_at hl 0 rfl) ?_
                refine k_v (va_runV (As := []) (rest := []) ⟨hx, hb, hml, hown, hts⟩ (c_X5_skip l D cI cB cO H.size m0 g0 g1 g2 g3 g4 g5 g6 g7 g8 ms N (skB T N y + 1) fa ho la fs T (by first | assumption | omega | exact skB_N (by assumption)) (by first | assumption | omega | exact skB_N (by assumption))) (cwV 0 hts gX5_readOrder_X5_skip rfl rfl rfl (by decide +kernel) ⟨Nat.le_of_ble_eq_true rfl, Nat.le_of_ble_eq_true rfl⟩) (preV_of hK hP hD hS hA hSt [0, 1] (by decide) rfl 0 (ci := 5) rfl rfl) rfl rfl hl.1 rfl (lv_room (Nat.le_of_ble_eq_true rfl)) dX5_readOrder_98 ⟨Nat.le_of_ble_eq_true rfl, Nat.le_of_ble_eq_true rfl⟩) hP hD hS hA [0, 1] [2] [1, 2, 0] [(g7, .inl (cI, 4, .inl sx))] (fun (u_10 : Unit) => [(m0, .inr (5, [.ref g0, .ref g1, .ref g2, .int (nI ms), .ref g3, .ref g4, .int (nI N), .int (nI (skB T N (skB T N y + 1))), .ref g5, .ref g6, .int fa, .int ho, .int la, .int fs, .ref g7, .ref g8])), (g4, .inl (cI, 120, .inl T)), (g7, .inl (cI, 4, .inl sx))]) rfl rfl (by decide) (by decide) (by decide) (fun _ => rfl) (fun u_10 H locs q_10 hP hD hS => ?_)
                rw [show (.int (nI (skB T N (skB T N y + 1))) : Value) = .int (nI (onOk (ordR T N ax).1 (skB T N (ordR T N ax).2) (ordR T N ax).2)) from congrArg Value.int (congrArg nI (by unfold onOk; rw [← hF]; rfl))] at hP hD
                have hP : va_P D vwCl [(m0, .inr (5, [.ref g0, .ref g1, .ref g2, .int (nI ms), .ref g3, .ref g4, .int (nI N), .int (nI (onOk (ordR T N ax).1 (skB T N (ordR T N ax).2) (ordR T N ax).2)), .ref g5, .ref g6, .int fa, .int ho, .int la, .int fs, .ref g7, .ref g8])), (g4, .inl (cI, 120, .inl T)), (g7, .inl (cI, 4, .inl sx))] H := hP
                have hD : va_D AM [(m0, .inr (5, [.ref g0, .ref g1, .ref g2, .int (nI ms), .ref g3, .ref g4, .int (nI N), .int (nI (onOk (ordR T N ax).1 (skB T N (ordR T N ax).2) (ordR T N ax).2)), .ref g5, .ref g6, .int fa, .int ho, .int la, .int fs, .ref g7, .ref g8])), (g4, .inl (cI, 120, .inl T)), (g7, .inl (cI, 4, .inl sx))] := hD
                refine lv_iconst (v := 1) hx hb dX5_readOrder_101 (by decide) ?_
                refine e_z (u := sx) hx hb hr (by first | rfl | exact bI_nar _) hlocks hP hD hS dX5_readOrder_102 ?_ ?_
                · rfl
                · exact ⟨by rw [← hF]; rfl, fun _ k hk => hv k (by omega)⟩
              · have hs59 := bh59_n hsl c_9
                have hF : (false, skB T N y) = (ordR T N ax) := by rw [oGo_e hwe, if_neg hs59] at hI; exact hI
                rw [show (.int (nI (skB T N y)) : Value) = .int (nI (onOk (ordR T N ax).1 (skB T N (ordR T N ax).2) (ordR T N ax).2)) from congrArg Value.int (congrArg nI (by unfold onOk; rw [← hF]; rfl))] at hP hD
                have hP : va_P D vwCl [(m0, .inr (5, [.ref g0, .ref g1, .ref g2, .int (nI ms), .ref g3, .ref g4, .int (nI N), .int (nI (onOk (ordR T N ax).1 (skB T N (ordR T N ax).2) (ordR T N ax).2)), .ref g5, .ref g6, .int fa, .int ho, .int la, .int fs, .ref g7, .ref g8])), (g4, .inl (cI, 120, .inl T)), (g7, .inl (cI, 4, .inl sx))] H := hP
                have hD : va_D AM [(m0, .inr (5, [.ref g0, .ref g1, .ref g2, .int (nI ms), .ref g3, .ref g4, .int (nI N), .int (nI (onOk (ordR T N ax).1 (skB T N (ordR T N ax).2) (ordR T N ax).2)), .ref g5, .ref g6, .int fa, .int ho, .int la, .int fs, .ref g7, .ref g8])), (g4, .inl (cI, 120, .inl T)), (g7, .inl (cI, 4, .inl sx))] := hD
                refine lv_iconst (v := 0) hx hb dX5_readOrder_85 (by decide) ?_
                refine e_z (u := sx) hx hb hr (by first | rfl | exact bI_nar _) hlocks hP hD hS dX5_readOrder_86 ?_ ?_
                · rfl
                · exact ⟨by rw [← hF]; rfl, fun h => by rw [← hF] at h; cases h⟩
          · have c_6 := Int32.not_le.mp c_6
            have hwl : w < nW (bh T N ax) := (nI_ltI (by omega) (by omega)).mp c_6
            have jn_11 : ∀ (H : Heap) (locs : List Loc), va_P D vwCl [(m0, .inr (5, [.ref g0, .ref g1, .ref g2, .int (nI ms), .ref g3, .ref g4, .int (nI N), .int (nI y), .ref g5, .ref g6, .int fa, .int ho, .int la, .int fs, .ref g7, .ref g8])), (g4, .inl (cI, 120, .inl T)), (g7, .inl (cI, 4, .inl sx))] H → va_D AM [(m0, .inr (5, [.ref g0, .ref g1, .ref g2, .int (nI ms), .ref g3, .ref g4, .int (nI N), .int (nI y), .ref g5, .ref g6, .int fa, .int ho, .int la, .int fs, .ref g7, .ref g8])), (g4, .inl (cI, 120, .inl T)), (g7, .inl (cI, 4, .inl sx))] → va_S AM sM.heap H locs → ∀ (ls : Array Slot), lv_has ls 4 [(0, .ref m0), (1, .int (bh T N ax)), (2, .int (nI (nW (bh T N ax)))), (3, .int (nI w))] → W pM l eM ({ frames := 3, cells := 0, slots := 0, locals := 67 } : Room) sM mM ([.ref m0, .int (bh T N ax)] : List Value).toArray below meth cM H locs 0 0 (MQ below (QI D (fun (ans : Int32) (u : Nat → Int32) => ans = bI (ordR T N ax).1 ∧ ((ordR T N ax).1 = true → ∀ k, k < nW (bh T N ax) → u k = oV T N ax k)) (fun (u : Nat → Int32) => [(m0, .inr (5, [.ref g0, .ref g1, .ref g2, .int (nI ms), .ref g3, .ref g4, .int (nI N), .int (nI (onOk (ordR T N ax).1 (skB T N (ordR T N ax).2) (ordR T N ax).2)), .ref g5, .ref g6, .int fa, .int ho, .int la, .int fs, .ref g7, .ref g8])), (g4, .inl (cI, 120, .inl T)), (g7, .inl (cI, 4, .inl u))]) AM) ([.ref m0, .int (bh T N ax)] : List Value).toArray sM 0 0 AM) (F0 mM 42 ls [.int (bI (mayB (bh T N ax) w)), .int (nI w), .ref m0]) := by
              intro  H locs hP hD hS ls hl
              refine k_i (va_runV (As := [.int (nI w), .int (bI (mayB (bh T N ax) w))]) (rest := []) ⟨hx, hb, hml, hown, hts⟩ (c_X5_readNumber l D cI cB cO H.size m0 g0 g1 g2 g3 g4 g5 g6 g7 g8 ms N y fa ho la fs T sx w (mayB (bh T N ax) w) (by first | assumption | omega | exact skB_N (by assumption)) (by first | assumption | omega | exact skB_N (by assumption)) (by first | assumption | omega | exact skB_N (by assumption))) (cwV 2 hts gX5_readOrder_X5_readNumber rfl rfl rfl (by decide +kernel) ⟨Nat.le_of_ble_eq_true rfl, Nat.le_of_ble_eq_true rfl⟩) (preV_of hK hP hD hS hA hSt [0, 1, 2] (by decide) rfl 0 (ci := 5) rfl rfl) rfl rfl hl.1 rfl (lv_room (Nat.le_of_ble_eq_true rfl)) dX5_readOrder_42 ⟨Nat.le_of_ble_eq_true rfl, Nat.le_of_ble_eq_true rfl⟩) hP hD hS hA [0, 1, 2] [] [0, 1, 2] [] (fun (u_12 : Unit) => [(m0, .inr (5, [.ref g0, .ref g1, .ref g2, .int (nI ms), .ref g3, .ref g4, .int (nI N), .int (nI (nEnd T N (mayB (bh T N ax) w) (skB T N y))), .ref g5, .ref g6, .int fa, .int ho, .int la, .int fs, .ref g7, .ref g8])), (g4, .inl (cI, 120, .inl T)), (g7, .inl (cI, 4, .inl (upd sx w (nVal T N (mayB (bh T N ax) w) (skB T N y)))))]) rfl rfl (by decide) (by decide) (by decide) (fun _ => rfl) (fun r_12 u_12 H locs q_12 hP hD hS => ?_)
              obtain rfl : r_12 = bI (nOk T N (mayB (bh T N ax) w) (skB T N y)) := q_12
              refine lv_if_ne (tgt := 50) hx hb dX5_readOrder_45 (by decide) (fun c_13 => ?_) (fun c_13 => ?_)
              · have c_13 := bI_n0.mp c_13
                have hok := c_13
                rw [show (upd sx w (nVal T N (mayB (bh T N ax) w) (skB T N y))) = (upd sx w (oV T N ax w)) from (by subst hp; rfl)] at hP hD
                have hP : va_P D vwCl [(m0, .inr (5, [.ref g0, .ref g1, .ref g2, .int (nI ms), .ref g3, .ref g4, .int (nI N), .int (nI (nEnd T N (mayB (bh T N ax) w) (skB T N y))), .ref g5, .ref g6, .int fa, .int ho, .int la, .int fs, .ref g7, .ref g8])), (g4, .inl (cI, 120, .inl T)), (g7, .inl (cI, 4, .inl (upd sx w (oV T N ax w))))] H := hP
                have hD : va_D AM [(m0, .inr (5, [.ref g0, .ref g1, .ref g2, .int (nI ms), .ref g3, .ref g4, .int (nI N), .int (nI (nEnd T N (mayB (bh T N ax) w) (skB T N y))), .ref g5, .ref g6, .int fa, .int ho, .int la, .int fs, .ref g7, .ref g8])), (g4, .inl (cI, 120, .inl T)), (g7, .inl (cI, 4, .inl (upd sx w (oV T N ax w))))] := hD
                have hvs : ∀ k, k < w + 1 → upd sx w (oV T N ax w) k = oV T N ax k := fun k h => by
                  by_cases hk : k = w
                  · rw [hk, pk_us]
                  · rw [pk_un hk]; exact hv k (by omega)
                refine lv_iinc (v := nI (w + 1)) (lv' := [(3, .int (nI (w + 1))), (0, .ref m0), (1, .int (bh T N ax)), (2, .int (nI (nW (bh T N ax))))]) hx hb dX5_readOrder_50 hl (k := 3) rfl (nI_add w 1) (by decide) rfl (fun ls hl => ?_)
                refine lv_goto (tgt := 25) hx hb dX5_readOrder_53 (by decide) ?_
                have hl9 : lv_has ls 4 [(0, .ref m0), (1, .int (bh T N ax)), (2, .int (nI (nW (bh T N ax)))), (3, .int (nI (w + 1)))] := lv_sub hl [1, 2, 3, 0] rfl
                exact ih_5 (w + 1) (nEnd T N (mayB (bh T N ax) w) (skB T N y)) (upd sx w (oV T N ax w)) (by first | assumption | omega | exact skB_N (by assumption)) (by exact (nEnd_N (skB_N hy)).2) (by rw [oGo_s (k := 0) hwl, if_pos hok] at hI; exact hI) (by subst hp; rfl) (by exact hvs) (by omega) H locs hP hD hS ls hl9
              · have c_13 := bI_0.mp c_13
                have hF : (false, nEnd T N (mayB (bh T N ax) w) (skB T N y)) = (ordR T N ax) := by rw [oGo_s (k := 0) hwl, if_neg (by rw [c_13]; decide)] at hI; exact hI
                rw [show (.int (nI (nEnd T N (mayB (bh T N ax) w) (skB T N y))) : Value) = .int (nI (onOk (ordR T N ax).1 (skB T N (ordR T N ax).2) (ordR T N ax).2)) from congrArg Value.int (congrArg nI (by unfold onOk; rw [← hF]; rfl))] at hP hD
                have hP : va_P D vwCl [(m0, .inr (5, [.ref g0, .ref g1, .ref g2, .int (nI ms), .ref g3, .ref g4, .int (nI N), .int (nI (onOk (ordR T N ax).1 (skB T N (ordR T N ax).2) (ordR T N ax).2)), .ref g5, .ref g6, .int fa, .int ho, .int la, .int fs, .ref g7, .ref g8])), (g4, .inl (cI, 120, .inl T)), (g7, .inl (cI, 4, .inl (upd sx w (nVal T N (mayB (bh T N ax) w) (skB T N y)))))] H := hP
                have hD : va_D AM [(m0, .inr (5, [.ref g0, .ref g1, .ref g2, .int (nI ms), .ref g3, .ref g4, .int (nI N), .int (nI (onOk (ordR T N ax).1 (skB T N (ordR T N ax).2) (ordR T N ax).2)), .ref g5, .ref g6, .int fa, .int ho, .int la, .int fs, .ref g7, .ref g8])), (g4, .inl (cI, 120, .inl T)), (g7, .inl (cI, 4, .inl (upd sx w (nVal T N (mayB (bh T N ax) w) (skB T N y)))))] := hD
                refine lv_iconst (v := 0) hx hb dX5_readOrder_48 (by decide) ?_
                refine e_z (u := upd sx w (nVal T N (mayB (bh T N ax) w) (skB T N y))) hx hb hr (by first | rfl | exact bI_nar _) hlocks hP hD hS dX5_readOrder_49 ?_ ?_
                · rfl
                · exact ⟨by rw [← hF]; rfl, fun h => by rw [← hF] at h; cases h⟩
            refine lv_aload_n hx hb dX5_readOrder_30 rfl (lv_at hl 0 rfl) ?_
            refine lv_iload_n hx hb dX5_readOrder_31 rfl (lv_at hl 3 rfl) ?_
            refine lv_iload_n hx hb dX5_readOrder_32 rfl (lv_at hl 3 rfl) ?_
            refine lv_iconst (v := 2) hx hb dX5_readOrder_33 (by decide) ?_
            refine lv_icmp_ne (tgt := 41) hx hb dX5_readOrder_34 (by decide) (fun c_14 => ?_) (fun c_14 => ?_)
            · have hm2 : ¬ w = 2 := fun h => c_14 (by rw [h]; rfl)
              refine lv_iconst (v := 0) hx hb dX5_readOrder_41 (by decide) ?_
              refine e_n (y := bI (mayB (bh T N ax) w)) (by first | exact bI_f (mayR_f hwl hw5 hm2) | exact bI_t (mayR_t hwl hw5 hm2)) ?_
              exact jn_11  H locs hP hD hS ls (lv_sub hl [0, 1, 2, 3] rfl)
            · have hm2 : w = 2 := (nI_eq (b := 2) (by omega) (by decide)).mp c_14
              refine lv_iconst (v := 1) hx hb dX5_readOrder_37 (by decide) ?_
              refine lv_goto (tgt := 42) hx hb dX5_readOrder_38 (by decide) ?_
              refine e_n (y := bI (mayB (bh T N ax) w)) (by first | exact bI_f (mayR_f hwl hw5 hm2) | exact bI_t (mayR_t hwl hw5 hm2)) ?_
              exact jn_11  H locs hP hD hS ls (lv_sub hl [0, 1, 2, 3] rfl)
      have hl9 : lv_has ls 4 [(0, .ref m0), (1, .int (bh T N ax)), (2, .int (nI (nW (bh T N ax)))), (3, .int 0)] := lv_sub hl [2, 3, 1, 0] rfl
      rw [show ([(0, .ref m0), (1, .int (bh T N ax)), (2, .int (nI (nW (bh T N ax)))), (3, .int 0)] : List (Nat × Value)) = [(0, .ref m0), (1, .int (bh T N ax)), (2, .int (nI (nW (bh T N ax)))), (3, .int (nI 0))] from rfl] at hl9
      exact lp_4 ((nW (bh T N ax) - 0) + 1) 0 (ax + 1) sd (by exact Nat.zero_le _) (by exact hlt) (by exact (ordR_g hw5).symm) (by rfl) (by exact fun k h => absurd h (Nat.not_lt_zero k)) (Nat.lt_succ_self _) H locs hP hD hS ls hl9
    · exact absurd c_3 (by have h4 := nW_4 hw5; exact nI_ne1 (by omega))
theorem in_X5_findFault_5 : ∀ w ∈ wsX50, w ∈ wsX5_findFault := fun _ h => List.mem_cons_of_mem _ (List.mem_append_right _ h)
set_option maxHeartbeats 4000000 in
set_option maxRecDepth 100000 in
theorem c_X5_findFault (l : Launch) (D : va_G) (cI cB cO : ClassId) (sz : Nat) (m0 g0 g1 g2 g3 g4 g5 g6 g7 g8 ms N ax : Nat) (fa ho la fs : Int32) (T : Nat → Int32) (sd : Nat → Int32) (hN : N ≤ 120) : CI l yX5_findFault wsX5_findFault ({ frames := 4, cells := 0, slots := 0, locals := 90 } : Room) D (tyL cI cB cO) [.ref m0] [(m0, .inr (5, [.ref g0, .ref g1, .ref g2, .int (nI ms), .ref g3, .ref g4, .int (nI N), .int (nI ax), .ref g5, .ref g6, .int fa, .int ho, .int la, .int fs, .ref g7, .ref g8])), (g4, .inl (cI, 120, .inl T)), (g7, .inl (cI, 4, .inl sd))] sz (fun (r : Int32) (_ : Nat × (Nat → Int32)) => r = ffV T N) (fun (u : Nat × (Nat → Int32)) => [(m0, .inr (5, [.ref g0, .ref g1, .ref g2, .int (nI ms), .ref g3, .ref g4, .int (nI N), .int (nI u.1), .ref g5, .ref g6, .int fa, .int ho, .int la, .int fs, .ref g7, .ref g8])), (g4, .inl (cI, 120, .inl T)), (g7, .inl (cI, 4, .inl u.2))]) 0 0 := by
  refine ct_of (cc := cX5_findFault) (maxL := 2) (ret := some .int) (own := RX5) (Qc := QI D (fun (r : Int32) (_ : Nat × (Nat → Int32)) => r = ffV T N) (fun (u : Nat × (Nat → Int32)) => [(m0, .inr (5, [.ref g0, .ref g1, .ref g2, .int (nI ms), .ref g3, .ref g4, .int (nI N), .int (nI u.1), .ref g5, .ref g6, .int fa, .int ho, .int la, .int fs, .ref g7, .ref g8])), (g4, .inl (cI, 120, .inl T)), (g7, .inl (cI, 4, .inl u.2))])) (by decide) rfl rfl (Nat.le_of_ble_eq_true rfl) ?_
  intro pM eM sM mM below meth cM AM ls H locs hx hb hr hts hown hlocks hml hin hK hP hD hS hA hSt hl
  have hl : lv_has ls 2 [(0, .ref m0)] := hl
  refine lv_aload_n hx hb dX5_findFault_0 rfl (lv_at hl 0 rfl) ?_
  refine lv_iconst (v := 0) hx hb dX5_findFault_1 (by decide) ?_
  refine va_put (D := D) (ci := 5) (v := .int 0) (ty := .int) (C := RX5) (T := TX5) (N := 16) hx hb hts in_X5_findFault_5 tyX5 tyX5_ok nmX5 hown hK hP hD hS 0 rfl rfl 7 (by decide) (hts (.fieldLink RX5 168 "HoseSpansModel" "at" "I") (List.mem_of_getElem? (i := 1) (by decide +kernel))) (fun _ h9 => h9) rfl (by decide +kernel) rfl rfl (Nat.le_of_ble_eq_true rfl) dX5_findFault_2 (fun H locs hP hD hS => ?_)
  have hP : va_P D vwCl [(m0, .inr (5, [.ref g0, .ref g1, .ref g2, .int (nI ms), .ref g3, .ref g4, .int (nI N), .int 0, .ref g5, .ref g6, .int fa, .int ho, .int la, .int fs, .ref g7, .ref g8])), (g4, .inl (cI, 120, .inl T)), (g7, .inl (cI, 4, .inl sd))] H := hP
  have hD : va_D AM [(m0, .inr (5, [.ref g0, .ref g1, .ref g2, .int (nI ms), .ref g3, .ref g4, .int (nI N), .int 0, .ref g5, .ref g6, .int fa, .int ho, .int la, .int fs, .ref g7, .ref g8])), (g4, .inl (cI, 120, .inl T)), (g7, .inl (cI, 4, .inl sd))] := hD
  refine lv_aload_n hx hb dX5_findFault_5 rfl (lv_at hl 0 rfl) ?_
  refine k_v (va_runV (As := []) (rest := []) ⟨hx, hb, hml, hown, hts⟩ (c_X5_skip l D cI cB cO H.size m0 g0 g1 g2 g3 g4 g5 g6 g7 g8 ms N 0 fa ho la fs T (by first | assumption | omega | exact skB_N (by omega)) (by first | assumption | omega | exact skB_N (by omega))) (cwV 0 hts gX5_findFault_X5_skip rfl rfl rfl (by decide +kernel) ⟨Nat.le_of_ble_eq_true rfl, Nat.le_of_ble_eq_true rfl⟩) (preV_of hK hP hD hS hA hSt [0, 1] (by decide) rfl 0 (ci := 5) rfl rfl) rfl rfl hl.1 rfl (lv_room (Nat.le_of_ble_eq_true rfl)) dX5_findFault_6 ⟨Nat.le_of_ble_eq_true rfl, Nat.le_of_ble_eq_true rfl⟩) hP hD hS hA [0, 1] [2] [1, 2, 0] [(g7, .inl (cI, 4, .inl sd))] (fun (u_1 : Unit) => [(m0, .inr (5, [.ref g0, .ref g1, .ref g2, .int (nI ms), .ref g3, .ref g4, .int (nI N), .int (nI (skB T N 0)), .ref g5, .ref g6, .int fa, .int ho, .int la, .int fs, .ref g7, .ref g8])), (g4, .inl (cI, 120, .inl T)), (g7, .inl (cI, 4, .inl sd))]) rfl rfl (by decide) (by decide) (by decide) (fun _ => rfl) (fun u_1 H locs q_1 hP hD hS => ?_)
  refine lv_aload_n hx hb dX5_findFault_9 rfl (lv_at hl 0 rfl) ?_
  refine va_get (D := D) (ci := 5) (v := .int (nI (skB T N 0))) (C := RX5) (T := TX5) (N := 16) hx hb hts in_X5_findFault_5 hown hK hP 0 rfl rfl 7 (by decide) (hts (.fieldLink RX5 168 "HoseSpansModel" "at" "I") (List.mem_of_getElem? (i := 1) (by decide +kernel))) (fun _ h9 => h9) rfl dX5_findFault_10 ?_
  refine lv_aload_n hx hb dX5_findFault_13 rfl (lv_at hl 0 rfl) ?_
  refine va_get (D := D) (ci := 5) (v := .int (nI N)) (C := RX5) (T := TX5) (N := 16) hx hb hts in_X5_findFault_5 hown hK hP 0 rfl rfl 6 (by decide) (hts (.fieldLink RX5 165 "HoseSpansModel" "bytes" "I") (List.mem_of_getElem? (i := 2) (by decide +kernel))) (fun _ h9 => h9) rfl dX5_findFault_14 ?_
  refine lv_icmp_ge (tgt := 24) hx hb dX5_findFault_17 (by decide) (fun c_2 => ?_) (fun c_2 => ?_)
  · have c_2 := Int32.not_lt.mpr c_2
    have hs0 : ¬ skB T N 0 < N := fun h => c_2 ((nI_ltI (by have := skB_N (T := T) (Nat.zero_le N); omega) (by omega)).mpr h)
    refine lv_iconst (v := 0) hx hb dX5_findFault_24 (by decide) ?_
    refine e_n (y := bI false) rfl ?_
    refine lv_istore_n (lv' := [(1, .int (bI false)), (0, .ref m0)]) hx hb dX5_findFault_25 rfl hl (by decide) rfl (fun ls hl => ?_)
    have lp_3 : ∀ (nn : Nat) (x y k : Nat) (g : Bool) (sx : Nat → Int32), (y ≤ N) → (ffI T N g x y k) → (k) < nn → ∀ (H : Heap) (locs : List Loc), va_P D vwCl [(m0, .inr (5, [.ref g0, .ref g1, .ref g2, .int (nI ms), .ref g3, .ref g4, .int (nI N), .int (nI y), .ref g5, .ref g6, .int fa, .int ho, .int la, .int fs, .ref g7, .ref g8])), (g4, .inl (cI, 120, .inl T)), (g7, .inl (cI, 4, .inl sx))] H → va_D AM [(m0, .inr (5, [.ref g0, .ref g1, .ref g2, .int (nI ms), .ref g3, .ref g4, .int (nI N), .int (nI y), .ref g5, .ref g6, .int fa, .int ho, .int la, .int fs, .ref g7, .ref g8])), (g4, .inl (cI, 120, .inl T)), (g7, .inl (cI, 4, .inl sx))] → va_S AM sM.heap H locs → ∀ (ls : Array Slot), lv_has ls 2 [(0, .ref m0), (1, .int (bI g))] → W pM l eM ({ frames := 4, cells := 0, slots := 0, locals := 90 } : Room) sM mM ([.ref m0] : List Value).toArray below meth cM H locs 0 0 (MQ below (QI D (fun (r : Int32) (_ : Nat × (Nat → Int32)) => r = ffV T N) (fun (u : Nat × (Nat → Int32)) => [(m0, .inr (5, [.ref g0, .ref g1, .ref g2, .int (nI ms), .ref g3, .ref g4, .int (nI N), .int (nI u.1), .ref g5, .ref g6, .int fa, .int ho, .int la, .int fs, .ref g7, .ref g8])), (g4, .inl (cI, 120, .inl T)), (g7, .inl (cI, 4, .inl u.2))]) AM) ([.ref m0] : List Value).toArray sM 0 0 AM) (F0 mM 26 ls []) := by
      intro nn
      induction nn with
      | zero =>
        intro x y k g sx hy hI hm
        exact absurd hm (Nat.not_lt_zero _)
      | succ nn ih_4 =>
        intro x y k g sx hy hI hm H locs hP hD hS ls hl
        refine lv_iload_n hx hb dX5_findFault_26 rfl (lv_at hl 1 rfl) ?_
        refine lv_if_eq (tgt := 58) hx hb dX5_findFault_27 (by decide) (fun c_5 => ?_) (fun c_5 => ?_)
        · have c_5 := bI_0.mp c_5
          have hg := c_5
          refine lv_iload_n hx hb dX5_findFault_58 rfl (lv_at hl 1 rfl) ?_
          refine lv_if_eq (tgt := 67) hx hb dX5_findFault_59 (by decide) (fun c_6 => ?_) (fun c_6 => ?_)
          · have c_6 := bI_0.mp c_6
            have hg2 := c_6
            refine lv_aload_n hx hb dX5_findFault_67 rfl (lv_at hl 0 rfl) ?_
            refine va_get (D := D) (ci := 5) (v := .int (nI y)) (C := RX5) (T := TX5) (N := 16) hx hb hts in_X5_findFault_5 hown hK hP 0 rfl rfl 7 (by decide) (hts (.fieldLink RX5 168 "HoseSpansModel" "at" "I") (List.mem_of_getElem? (i := 1) (by decide +kernel))) (fun _ h9 => h9) rfl dX5_findFault_68 ?_
            refine e_i (u := (y, sx)) hx hb hr hlocks hP hD hS dX5_findFault_71 ?_ ?_
            · rfl
            · subst hg2; exact ff_flt hI
          · have c_6 := bI_n0.mp c_6
            have hg2 := c_6
            refine lv_ldc (v := -1000001) hx hb hown (hts (.constant RX5 74 (-1000001)) (List.mem_of_getElem? (i := 4) (by decide +kernel))) dX5_findFault_62 ?_
            refine lv_goto (tgt := 71) hx hb dX5_findFault_64 (by decide) ?_
            refine e_i (u := (y, sx)) hx hb hr hlocks hP hD hS dX5_findFault_71 ?_ ?_
            · rfl
            · first | (subst hg; exact ff_end hI hyl) | exact absurd (hg.symm.trans hg2) (by decide)
        · have c_5 := bI_n0.mp c_5
          have hg := c_5
          refine lv_aload_n hx hb dX5_findFault_30 rfl (lv_at hl 0 rfl) ?_
          refine va_get (D := D) (ci := 5) (v := .int (nI y)) (C := RX5) (T := TX5) (N := 16) hx hb hts in_X5_findFault_5 hown hK hP 0 rfl rfl 7 (by decide) (hts (.fieldLink RX5 168 "HoseSpansModel" "at" "I") (List.mem_of_getElem? (i := 1) (by decide +kernel))) (fun _ h9 => h9) rfl dX5_findFault_31 ?_
          refine lv_aload_n hx hb dX5_findFault_34 rfl (lv_at hl 0 rfl) ?_
          refine va_get (D := D) (ci := 5) (v := .int (nI N)) (C := RX5) (T := TX5) (N := 16) hx hb hts in_X5_findFault_5 hown hK hP 0 rfl rfl 6 (by decide) (hts (.fieldLink RX5 165 "HoseSpansModel" "bytes" "I") (List.mem_of_getElem? (i := 2) (by decide +kernel))) (fun _ h9 => h9) rfl dX5_findFault_35 ?_
          refine lv_icmp_ge (tgt := 58) hx hb dX5_findFault_38 (by decide) (fun c_7 => ?_) (fun c_7 => ?_)
          · have c_7 := Int32.not_lt.mpr c_7
            have hyl : ¬ y < N := fun h => c_7 ((nI_ltI (by omega) (by omega)).mpr h)
            refine lv_iload_n hx hb dX5_findFault_58 rfl (lv_at hl 1 rfl) ?_
            refine lv_if_eq (tgt := 67) hx hb dX5_findFault_59 (by decide) (fun c_8 => ?_) (fun c_8 => ?_)
            · have c_8 := bI_0.mp c_8
              have hg2 := c_8
              refine lv_aload_n hx hb dX5_findFault_67 rfl (lv_at hl 0 rfl) ?_
              refine va_get (D := D) (ci := 5) (v := .int (nI y)) (C := RX5) (T := TX5) (N := 16) hx hb hts in_X5_findFault_5 hown hK hP 0 rfl rfl 7 (by decide) (hts (.fieldLink RX5 168 "HoseSpansModel" "at" "I") (List.mem_of_getElem? (i := 1) (by decide +kernel))) (fun _ h9 => h9) rfl dX5_findFault_68 ?_
              refine e_i (u := (y, sx)) hx hb hr hlocks hP hD hS dX5_findFault_71 ?_ ?_
              · rfl
              · subst hg2; exact ff_flt hI
            · have c_8 := bI_n0.mp c_8
              have hg2 := c_8
              refine lv_ldc (v := -1000001) hx hb hown (hts (.constant RX5 74 (-1000001)) (List.mem_of_getElem? (i := 4) (by decide +kernel))) dX5_findFault_62 ?_
              refine lv_goto (tgt := 71) hx hb dX5_findFault_64 (by decide) ?_
              refine e_i (u := (y, sx)) hx hb hr hlocks hP hD hS dX5_findFault_71 ?_ ?_
              · rfl
              · first | (subst hg; exact ff_end hI hyl) | exact absurd (hg.symm.trans hg2) (by decide)
          · have c_7 := Int32.not_le.mp c_7
            have hyl : y < N := (nI_ltI (by omega) (by omega)).mp c_7
            refine lv_aload_n hx hb dX5_findFault_41 rfl (lv_at hl 0 rfl) ?_
            refine lv_aload_n hx hb dX5_findFault_42 rfl (lv_at hl 0 rfl) ?_
            refine va_get (D := D) (ci := 5) (v := .ref g4) (C := RX5) (T := TX5) (N := 16) hx hb hts in_X5_findFault_5 hown hK hP 0 rfl rfl 5 (by decide) (hts (.fieldLink RX5 22 "HoseSpansModel" "text" "[I") (List.mem_of_getElem? (i := 3) (by decide +kernel))) (fun _ h9 => h9) rfl dX5_findFault_43 ?_
            refine lv_aload_n hx hb dX5_findFault_46 rfl (lv_at hl 0 rfl) ?_
            refine va_get (D := D) (ci := 5) (v := .int (nI y)) (C := RX5) (T := TX5) (N := 16) hx hb hts in_X5_findFault_5 hown hK hP 0 rfl rfl 7 (by decide) (hts (.fieldLink RX5 168 "HoseSpansModel" "at" "I") (List.mem_of_getElem? (i := 1) (by decide +kernel))) (fun _ h9 => h9) rfl dX5_findFault_47 ?_
            refine va_iald hx hb hK hP 1 0 rfl rfl (vp_in_nI (by omega) (by decide)) dX5_findFault_50 ?_
            refine e_n (y := T y) (congrArg T (nI_clamp (by omega))) ?_
            refine k_i (va_runV (As := [.int (T y)]) (rest := []) ⟨hx, hb, hml, hown, hts⟩ (c_X5_readOrder l D cI cB cO H.size m0 g0 g1 g2 g3 g4 g5 g6 g7 g8 ms N y fa ho la fs T sx (T y) (by first | assumption | omega | exact skB_N (by omega)) (by first | assumption | omega | exact skB_N (by omega)) (by exact (bh_t hyl).symm)) (cwV 1 hts gX5_findFault_X5_readOrder rfl rfl rfl (by decide +kernel) ⟨Nat.le_of_ble_eq_true rfl, Nat.le_of_ble_eq_true rfl⟩) (preV_of hK hP hD hS hA hSt [0, 1, 2] (by decide) rfl 0 (ci := 5) rfl rfl) rfl rfl hl.1 rfl (lv_room (Nat.le_of_ble_eq_true rfl)) dX5_findFault_51 ⟨Nat.le_of_ble_eq_true rfl, Nat.le_of_ble_eq_true rfl⟩) hP hD hS hA [0, 1, 2] [] [0, 1, 2] [] (fun (u_9 : Nat → Int32) => [(m0, .inr (5, [.ref g0, .ref g1, .ref g2, .int (nI ms), .ref g3, .ref g4, .int (nI N), .int (nI (onOk (ordR T N y).1 (skB T N (ordR T N y).2) (ordR T N y).2)), .ref g5, .ref g6, .int fa, .int ho, .int la, .int fs, .ref g7, .ref g8])), (g4, .inl (cI, 120, .inl T)), (g7, .inl (cI, 4, .inl u_9))]) rfl rfl (by decide) (by decide) (by decide) (fun _ => rfl) (fun r_9 u_9 H locs q_9 hP hD hS => ?_)
            obtain ⟨rfl, hq2⟩ := q_9
            refine lv_istore_n (lv' := [(1, .int (bI (ordR T N y).1)), (0, .ref m0)]) hx hb dX5_findFault_54 rfl hl (by decide) rfl (fun ls hl => ?_)
            refine lv_goto (tgt := 26) hx hb dX5_findFault_55 (by decide) ?_
            have hl9 : lv_has ls 2 [(0, .ref m0), (1, .int (bI (ordR T N y).1))] := lv_sub hl [1, 0] rfl
            exact ih_4 (x + 1) (onOk (ordR T N y).1 (skB T N (ordR T N y).2) (ordR T N y).2) (k - 1) ((ordR T N y).1) u_9 (by exact ffI_nx hy) (by subst hg; exact ffI_s hI hyl hy) (by subst hg; have h7 := (ffI_t hI).2.2; omega) H locs hP hD hS ls hl9
    have hl9 : lv_has ls 2 [(0, .ref m0), (1, .int (bI false))] := lv_sub hl [1, 0] rfl
    exact lp_3 (((N + 1)) + 1) 0 (skB T N 0) (N + 1) false sd (by exact skB_N (Nat.zero_le N)) (by first | exact ffI_0t (by assumption) | exact ffI_0f (by assumption)) (Nat.lt_succ_self _) H locs hP hD hS ls hl9
  · have c_2 := Int32.not_le.mp c_2
    have hs0 : skB T N 0 < N := (nI_ltI (by have := skB_N (T := T) (Nat.zero_le N); omega) (by omega)).mp c_2
    refine lv_iconst (v := 1) hx hb dX5_findFault_20 (by decide) ?_
    refine lv_goto (tgt := 25) hx hb dX5_findFault_21 (by decide) ?_
    refine e_n (y := bI true) rfl ?_
    refine lv_istore_n (lv' := [(1, .int (bI true)), (0, .ref m0)]) hx hb dX5_findFault_25 rfl hl (by decide) rfl (fun ls hl => ?_)
    have lp_10 : ∀ (nn : Nat) (x y k : Nat) (g : Bool) (sx : Nat → Int32), (y ≤ N) → (ffI T N g x y k) → (k) < nn → ∀ (H : Heap) (locs : List Loc), va_P D vwCl [(m0, .inr (5, [.ref g0, .ref g1, .ref g2, .int (nI ms), .ref g3, .ref g4, .int (nI N), .int (nI y), .ref g5, .ref g6, .int fa, .int ho, .int la, .int fs, .ref g7, .ref g8])), (g4, .inl (cI, 120, .inl T)), (g7, .inl (cI, 4, .inl sx))] H → va_D AM [(m0, .inr (5, [.ref g0, .ref g1, .ref g2, .int (nI ms), .ref g3, .ref g4, .int (nI N), .int (nI y), .ref g5, .ref g6, .int fa, .int ho, .int la, .int fs, .ref g7, .ref g8])), (g4, .inl (cI, 120, .inl T)), (g7, .inl (cI, 4, .inl sx))] → va_S AM sM.heap H locs → ∀ (ls : Array Slot), lv_has ls 2 [(0, .ref m0), (1, .int (bI g))] → W pM l eM ({ frames := 4, cells := 0, slots := 0, locals := 90 } : Room) sM mM ([.ref m0] : List Value).toArray below meth cM H locs 0 0 (MQ below (QI D (fun (r : Int32) (_ : Nat × (Nat → Int32)) => r = ffV T N) (fun (u : Nat × (Nat → Int32)) => [(m0, .inr (5, [.ref g0, .ref g1, .ref g2, .int (nI ms), .ref g3, .ref g4, .int (nI N), .int (nI u.1), .ref g5, .ref g6, .int fa, .int ho, .int la, .int fs, .ref g7, .ref g8])), (g4, .inl (cI, 120, .inl T)), (g7, .inl (cI, 4, .inl u.2))]) AM) ([.ref m0] : List Value).toArray sM 0 0 AM) (F0 mM 26 ls []) := by
      intro nn
      induction nn with
      | zero =>
        intro x y k g sx hy hI hm
        exact absurd hm (Nat.not_lt_zero _)
      | succ nn ih_11 =>
        intro x y k g sx hy hI hm H locs hP hD hS ls hl
        refine lv_iload_n hx hb dX5_findFault_26 rfl (lv_at hl 1 rfl) ?_
        refine lv_if_eq (tgt := 58) hx hb dX5_findFault_27 (by decide) (fun c_12 => ?_) (fun c_12 => ?_)
        · have c_12 := bI_0.mp c_12
          have hg := c_12
          refine lv_iload_n hx hb dX5_findFault_58 rfl (lv_at hl 1 rfl) ?_
          refine lv_if_eq (tgt := 67) hx hb dX5_findFault_59 (by decide) (fun c_13 => ?_) (fun c_13 => ?_)
          · have c_13 := bI_0.mp c_13
            have hg2 := c_13
            refine lv_aload_n hx hb dX5_findFault_67 rfl (lv_at hl 0 rfl) ?_
            refine va_get (D := D) (ci := 5) (v := .int (nI y)) (C := RX5) (T := TX5) (N := 16) hx hb hts in_X5_findFault_5 hown hK hP 0 rfl rfl 7 (by decide) (hts (.fieldLink RX5 168 "HoseSpansModel" "at" "I") (List.mem_of_getElem? (i := 1) (by decide +kernel))) (fun _ h9 => h9) rfl dX5_findFault_68 ?_
            refine e_i (u := (y, sx)) hx hb hr hlocks hP hD hS dX5_findFault_71 ?_ ?_
            · rfl
            · subst hg2; exact ff_flt hI
          · have c_13 := bI_n0.mp c_13
            have hg2 := c_13
            refine lv_ldc (v := -1000001) hx hb hown (hts (.constant RX5 74 (-1000001)) (List.mem_of_getElem? (i := 4) (by decide +kernel))) dX5_findFault_62 ?_
            refine lv_goto (tgt := 71) hx hb dX5_findFault_64 (by decide) ?_
            refine e_i (u := (y, sx)) hx hb hr hlocks hP hD hS dX5_findFault_71 ?_ ?_
            · rfl
            · first | (subst hg; exact ff_end hI hyl) | exact absurd (hg.symm.trans hg2) (by decide)
        · have c_12 := bI_n0.mp c_12
          have hg := c_12
          refine lv_aload_n hx hb dX5_findFault_30 rfl (lv_at hl 0 rfl) ?_
          refine va_get (D := D) (ci := 5) (v := .int (nI y)) (C := RX5) (T := TX5) (N := 16) hx hb hts in_X5_findFault_5 hown hK hP 0 rfl rfl 7 (by decide) (hts (.fieldLink RX5 168 "HoseSpansModel" "at" "I") (List.mem_of_getElem? (i := 1) (by decide +kernel))) (fun _ h9 => h9) rfl dX5_findFault_31 ?_
          refine lv_aload_n hx hb dX5_findFault_34 rfl (lv_at hl 0 rfl) ?_
          refine va_get (D := D) (ci := 5) (v := .int (nI N)) (C := RX5) (T := TX5) (N := 16) hx hb hts in_X5_findFault_5 hown hK hP 0 rfl rfl 6 (by decide) (hts (.fieldLink RX5 165 "HoseSpansModel" "bytes" "I") (List.mem_of_getElem? (i := 2) (by decide +kernel))) (fun _ h9 => h9) rfl dX5_findFault_35 ?_
          refine lv_icmp_ge (tgt := 58) hx hb dX5_findFault_38 (by decide) (fun c_14 => ?_) (fun c_14 => ?_)
          · have c_14 := Int32.not_lt.mpr c_14
            have hyl : ¬ y < N := fun h => c_14 ((nI_ltI (by omega) (by omega)).mpr h)
            refine lv_iload_n hx hb dX5_findFault_58 rfl (lv_at hl 1 rfl) ?_
            refine lv_if_eq (tgt := 67) hx hb dX5_findFault_59 (by decide) (fun c_15 => ?_) (fun c_15 => ?_)
            · have c_15 := bI_0.mp c_15
              have hg2 := c_15
              refine lv_aload_n hx hb dX5_findFault_67 rfl (lv_at hl 0 rfl) ?_
              refine va_get (D := D) (ci := 5) (v := .int (nI y)) (C := RX5) (T := TX5) (N := 16) hx hb hts in_X5_findFault_5 hown hK hP 0 rfl rfl 7 (by decide) (hts (.fieldLink RX5 168 "HoseSpansModel" "at" "I") (List.mem_of_getElem? (i := 1) (by decide +kernel))) (fun _ h9 => h9) rfl dX5_findFault_68 ?_
              refine e_i (u := (y, sx)) hx hb hr hlocks hP hD hS dX5_findFault_71 ?_ ?_
              · rfl
              · subst hg2; exact ff_flt hI
            · have c_15 := bI_n0.mp c_15
              have hg2 := c_15
              refine lv_ldc (v := -1000001) hx hb hown (hts (.constant RX5 74 (-1000001)) (List.mem_of_getElem? (i := 4) (by decide +kernel))) dX5_findFault_62 ?_
              refine lv_goto (tgt := 71) hx hb dX5_findFault_64 (by decide) ?_
              refine e_i (u := (y, sx)) hx hb hr hlocks hP hD hS dX5_findFault_71 ?_ ?_
              · rfl
              · first | (subst hg; exact ff_end hI hyl) | exact absurd (hg.symm.trans hg2) (by decide)
          · have c_14 := Int32.not_le.mp c_14
            have hyl : y < N := (nI_ltI (by omega) (by omega)).mp c_14
            refine lv_aload_n hx hb dX5_findFault_41 rfl (lv_at hl 0 rfl) ?_
            refine lv_aload_n hx hb dX5_findFault_42 rfl (lv_at hl 0 rfl) ?_
            refine va_get (D := D) (ci := 5) (v := .ref g4) (C := RX5) (T := TX5) (N := 16) hx hb hts in_X5_findFault_5 hown hK hP 0 rfl rfl 5 (by decide) (hts (.fieldLink RX5 22 "HoseSpansModel" "text" "[I") (List.mem_of_getElem? (i := 3) (by decide +kernel))) (fun _ h9 => h9) rfl dX5_findFault_43 ?_
            refine lv_aload_n hx hb dX5_findFault_46 rfl (lv_at hl 0 rfl) ?_
            refine va_get (D := D) (ci := 5) (v := .int (nI y)) (C := RX5) (T := TX5) (N := 16) hx hb hts in_X5_findFault_5 hown hK hP 0 rfl rfl 7 (by decide) (hts (.fieldLink RX5 168 "HoseSpansModel" "at" "I") (List.mem_of_getElem? (i := 1) (by decide +kernel))) (fun _ h9 => h9) rfl dX5_findFault_47 ?_
            refine va_iald hx hb hK hP 1 0 rfl rfl (vp_in_nI (by omega) (by decide)) dX5_findFault_50 ?_
            refine e_n (y := T y) (congrArg T (nI_clamp (by omega))) ?_
            refine k_i (va_runV (As := [.int (T y)]) (rest := []) ⟨hx, hb, hml, hown, hts⟩ (c_X5_readOrder l D cI cB cO H.size m0 g0 g1 g2 g3 g4 g5 g6 g7 g8 ms N y fa ho la fs T sx (T y) (by first | assumption | omega | exact skB_N (by omega)) (by first | assumption | omega | exact skB_N (by omega)) (by exact (bh_t hyl).symm)) (cwV 1 hts gX5_findFault_X5_readOrder rfl rfl rfl (by decide +kernel) ⟨Nat.le_of_ble_eq_true rfl, Nat.le_of_ble_eq_true rfl⟩) (preV_of hK hP hD hS hA hSt [0, 1, 2] (by decide) rfl 0 (ci := 5) rfl rfl) rfl rfl hl.1 rfl (lv_room (Nat.le_of_ble_eq_true rfl)) dX5_findFault_51 ⟨Nat.le_of_ble_eq_true rfl, Nat.le_of_ble_eq_true rfl⟩) hP hD hS hA [0, 1, 2] [] [0, 1, 2] [] (fun (u_16 : Nat → Int32) => [(m0, .inr (5, [.ref g0, .ref g1, .ref g2, .int (nI ms), .ref g3, .ref g4, .int (nI N), .int (nI (onOk (ordR T N y).1 (skB T N (ordR T N y).2) (ordR T N y).2)), .ref g5, .ref g6, .int fa, .int ho, .int la, .int fs, .ref g7, .ref g8])), (g4, .inl (cI, 120, .inl T)), (g7, .inl (cI, 4, .inl u_16))]) rfl rfl (by decide) (by decide) (by decide) (fun _ => rfl) (fun r_16 u_16 H locs q_16 hP hD hS => ?_)
            obtain ⟨rfl, hq2⟩ := q_16
            refine lv_istore_n (lv' := [(1, .int (bI (ordR T N y).1)), (0, .ref m0)]) hx hb dX5_findFault_54 rfl hl (by decide) rfl (fun ls hl => ?_)
            refine lv_goto (tgt := 26) hx hb dX5_findFault_55 (by decide) ?_
            have hl9 : lv_has ls 2 [(0, .ref m0), (1, .int (bI (ordR T N y).1))] := lv_sub hl [1, 0] rfl
            exact ih_11 (x + 1) (onOk (ordR T N y).1 (skB T N (ordR T N y).2) (ordR T N y).2) (k - 1) ((ordR T N y).1) u_16 (by exact ffI_nx hy) (by subst hg; exact ffI_s hI hyl hy) (by subst hg; have h7 := (ffI_t hI).2.2; omega) H locs hP hD hS ls hl9
    have hl9 : lv_has ls 2 [(0, .ref m0), (1, .int (bI true))] := lv_sub hl [1, 0] rfl
    exact lp_10 (((N + 1)) + 1) 0 (skB T N 0) (N + 1) true sd (by exact skB_N (Nat.zero_le N)) (by first | exact ffI_0t (by assumption) | exact ffI_0f (by assumption)) (Nat.lt_succ_self _) H locs hP hD hS ls hl9
