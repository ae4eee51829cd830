set_option maxHeartbeats 4000000 in
set_option maxRecDepth 100000 in
theorem c_X5_in (l : Launch) (D : va_G) (cI cB cO : ClassId) (sz : Nat) (a b c : Int32)  : CI l yX5_in wsX5_in ({ frames := 0, cells := 0, slots := 0, locals := 0 } : Room) D (tyL cI cB cO) [.int a, .int b, .int c] [] sz (fun (r : Int32) (_ : Unit) => r = bI (inR a b c)) (fun (u : Unit) => []) 0 0 := by
  refine ct_of (cc := cX5_in) (maxL := 3) (ret := some .boolean) (own := RX5) (Qc := QI D (fun (r : Int32) (_ : Unit) => r = bI (inR a b c)) (fun (u : Unit) => [])) (by decide) rfl rfl (Nat.le_of_ble_eq_true rfl) ?_
  intro pM eM sM mM below meth cM AM ls H locs hx hb hr hts hown hlocks hml hin hK hP hD hS hA hSt hl
  have hl : lv_has ls 3 [(0, .int a), (1, .int b), (2, .int c)] := hl
  refine lv_iload_n hx hb dX5_in_0 rfl (lv_at hl 0 rfl) ?_
  refine lv_iload_n hx hb dX5_in_1 rfl (lv_at hl 1 rfl) ?_
  refine lv_icmp_lt (tgt := 14) hx hb dX5_in_2 (by decide) (fun c_1 => ?_) (fun c_1 => ?_)
  · refine lv_iconst (v := 0) hx hb dX5_in_14 (by decide) ?_
    refine e_z (u := ()) hx hb hr (by first | rfl | exact bI_nar _) hlocks hP hD hS dX5_in_15 ?_ ?_
    · rfl
    · first | exact bI_t (inR_t.mpr ⟨Int32.not_lt.mp (by assumption), Int32.not_lt.mp (by assumption)⟩) | exact bI_f (inR_f.mpr (fun h => absurd h.1 (Int32.not_le.mpr (by assumption)))) | exact bI_f (inR_f.mpr (fun h => absurd h.2 (Int32.not_le.mpr (by assumption))))
  · refine lv_iload_n hx hb dX5_in_5 rfl (lv_at hl 0 rfl) ?_
    refine lv_iload_n hx hb dX5_in_6 rfl (lv_at hl 2 rfl) ?_
    refine lv_icmp_gt (tgt := 14) hx hb dX5_in_7 (by decide) (fun c_2 => ?_) (fun c_2 => ?_)
    · refine lv_iconst (v := 0) hx hb dX5_in_14 (by decide) ?_
      refine e_z (u := ()) hx hb hr (by first | rfl | exact bI_nar _) hlocks hP hD hS dX5_in_15 ?_ ?_
      · rfl
      · first | exact bI_t (inR_t.mpr ⟨Int32.not_lt.mp (by assumption), Int32.not_lt.mp (by assumption)⟩) | exact bI_f (inR_f.mpr (fun h => absurd h.1 (Int32.not_le.mpr (by assumption)))) | exact bI_f (inR_f.mpr (fun h => absurd h.2 (Int32.not_le.mpr (by assumption))))
    · refine lv_iconst (v := 1) hx hb dX5_in_10 (by decide) ?_
      refine lv_goto (tgt := 15) hx hb dX5_in_11 (by decide) ?_
      refine e_z (u := ()) hx hb hr (by first | rfl | exact bI_nar _) hlocks hP hD hS dX5_in_15 ?_ ?_
      · rfl
      · first | exact bI_t (inR_t.mpr ⟨Int32.not_lt.mp (by assumption), Int32.not_lt.mp (by assumption)⟩) | exact bI_f (inR_f.mpr (fun h => absurd h.1 (Int32.not_le.mpr (by assumption)))) | exact bI_f (inR_f.mpr (fun h => absurd h.2 (Int32.not_le.mpr (by assumption))))
set_option maxHeartbeats 4000000 in
set_option maxRecDepth 100000 in
theorem c_X5_has (l : Launch) (D : va_G) (cI cB cO : ClassId) (sz : Nat) (p i : Nat) (hp : p < 2048) (hi : i ≤ 10) : CI l yX5_has wsX5_has ({ frames := 0, cells := 0, slots := 0, locals := 0 } : Room) D (tyL cI cB cO) [.int (nI p), .int (nI i)] [] sz (fun (r : Int32) (_ : Unit) => r = bI (p.testBit i)) (fun (u : Unit) => []) 0 0 := by
  refine ct_of (cc := cX5_has) (maxL := 2) (ret := some .boolean) (own := RX5) (Qc := QI D (fun (r : Int32) (_ : Unit) => r = bI (p.testBit i)) (fun (u : Unit) => [])) (by decide) rfl rfl (Nat.le_of_ble_eq_true rfl) ?_
  intro pM eM sM mM below meth cM AM ls H locs hx hb hr hts hown hlocks hml hin hK hP hD hS hA hSt hl
  have hl : lv_has ls 2 [(0, .int (nI p)), (1, .int (nI i))] := hl
  refine lv_iload_n hx hb dX5_has_0 rfl (lv_at hl 0 rfl) ?_
  refine lv_iload_n hx hb dX5_has_1 rfl (lv_at hl 1 rfl) ?_
  refine lv_ishr hx hb dX5_has_2 ?_
  refine lv_iconst (v := 1) hx hb dX5_has_3 (by decide) ?_
  refine lv_iand hx hb dX5_has_4 ?_
  refine e_n (y := nI (p / 2 ^ i % 2)) (bit_r hp hi) ?_
  refine lv_iconst (v := 1) hx hb dX5_has_5 (by decide) ?_
  refine lv_icmp_ne (tgt := 13) hx hb dX5_has_6 (by decide) (fun c_1 => ?_) (fun c_1 => ?_)
  · refine lv_iconst (v := 0) hx hb dX5_has_13 (by decide) ?_
    refine e_z (u := ()) hx hb hr (by first | rfl | exact bI_nar _) hlocks hP hD hS dX5_has_14 ?_ ?_
    · rfl
    · first | exact bI_t (bit_r1 (by assumption)) | exact bI_f (bit_r0 (by assumption))
  · refine lv_iconst (v := 1) hx hb dX5_has_9 (by decide) ?_
    refine lv_goto (tgt := 14) hx hb dX5_has_10 (by decide) ?_
    refine e_z (u := ()) hx hb hr (by first | rfl | exact bI_nar _) hlocks hP hD hS dX5_has_14 ?_ ?_
    · rfl
    · first | exact bI_t (bit_r1 (by assumption)) | exact bI_f (bit_r0 (by assumption))
set_option maxHeartbeats 4000000 in
set_option maxRecDepth 100000 in
theorem c_X5_ones (l : Launch) (D : va_G) (cI cB cO : ClassId) (sz : Nat) (x : Int32) (hx9 : okPumps x) : CI l yX5_ones wsX5_ones ({ frames := 0, cells := 0, slots := 0, locals := 0 } : Room) D (tyL cI cB cO) [.int x] [] sz (fun (r : Int32) (_ : Unit) => r = bcI x) (fun (u : Unit) => []) 0 0 := by
  refine ct_of (cc := cX5_ones) (maxL := 3) (ret := some .int) (own := RX5) (Qc := QI D (fun (r : Int32) (_ : Unit) => r = bcI x) (fun (u : Unit) => [])) (by decide) rfl rfl (Nat.le_of_ble_eq_true rfl) ?_
  intro pM eM sM mM below meth cM AM ls H locs hx hb hr hts hown hlocks hml hin hK hP hD hS hA hSt hl
  have hl : lv_has ls 3 [(0, .int x)] := hl
  obtain ⟨p, hp, rfl⟩ := hx9
  refine lv_iconst (v := 0) hx hb dX5_ones_0 (by decide) ?_
  refine lv_istore_n (lv' := [(1, .int 0), (0, .int (nI p))]) hx hb dX5_ones_1 rfl hl (by decide) rfl (fun ls hl => ?_)
  refine lv_iconst (v := 0) hx hb dX5_ones_2 (by decide) ?_
  refine lv_istore_n (lv' := [(2, .int 0), (1, .int 0), (0, .int (nI p))]) hx hb dX5_ones_3 rfl hl (by decide) rfl (fun ls hl => ?_)
  have lp_1 : ∀ (nn : Nat) (k : Nat), (k ≤ 11) → (11 - k) < nn → ∀ (H : Heap) (locs : List Loc), va_P D vwCl [] H → va_D AM [] → va_S AM sM.heap H locs → ∀ (ls : Array Slot), lv_has ls 3 [(0, .int (nI p)), (1, .int (nI (onesN p k))), (2, .int (nI k))] → W pM l eM ({ frames := 0, cells := 0, slots := 0, locals := 0 } : Room) sM mM ([.int (nI p)] : List Value).toArray below meth cM H locs 0 0 (MQ below (QI D (fun (r : Int32) (_ : Unit) => r = bcI (nI p)) (fun (u : Unit) => []) AM) ([.int (nI p)] : List Value).toArray sM 0 0 AM) (F0 mM 4 ls []) := by
    intro nn
    induction nn with
    | zero =>
      intro k hk hm
      exact absurd hm (Nat.not_lt_zero _)
    | succ nn ih_2 =>
      intro k hk hm H locs hP hD hS ls hl
      refine lv_iload_n hx hb dX5_ones_4 rfl (lv_at hl 2 rfl) ?_
      refine lv_bipush (v := 10) hx hb dX5_ones_5 (by decide) ?_
      refine lv_icmp_gt (tgt := 24) hx hb dX5_ones_7 (by decide) (fun c_3 => ?_) (fun c_3 => ?_)
      · have c_3 : 10 < k := (nI_ltI (a := 10) (b := k) (by decide) (by omega)).mp c_3
        refine lv_iload_n hx hb dX5_ones_24 rfl (lv_at hl 1 rfl) ?_
        refine e_i (u := ()) hx hb hr hlocks hP hD hS dX5_ones_25 ?_ ?_
        · rfl
        · obtain rfl : 11 = k := by omega
          rw [onesN_pcn]; unfold bcI; rw [pl_nI (show p < 2147483648 by omega)]
      · have c_3 : k ≤ 10 := by have h := mt (nI_ltI (a := 10) (b := k) (by decide) (by omega)).mpr c_3; omega
        refine lv_iload_n hx hb dX5_ones_10 rfl (lv_at hl 1 rfl) ?_
        refine lv_iload_n hx hb dX5_ones_11 rfl (lv_at hl 0 rfl) ?_
        refine lv_iload_n hx hb dX5_ones_12 rfl (lv_at hl 2 rfl) ?_
        refine lv_ishr hx hb dX5_ones_13 ?_
        refine lv_iconst (v := 1) hx hb dX5_ones_14 (by decide) ?_
        refine lv_iand hx hb dX5_ones_15 ?_
        refine e_n (y := nI (p / 2 ^ k % 2)) (bit_r hp (by omega)) ?_
        refine lv_iadd hx hb dX5_ones_16 ?_
        refine e_n (y := nI (onesN p k + p / 2 ^ k % 2)) (nI_add (onesN p k) (p / 2 ^ k % 2)) ?_
        refine lv_istore_n (lv' := [(1, .int (nI (onesN p k + p / 2 ^ k % 2))), (0, .int (nI p)), (2, .int (nI k))]) hx hb dX5_ones_17 rfl hl (by decide) rfl (fun ls hl => ?_)
        refine lv_iinc (v := nI (k + 1)) (lv' := [(2, .int (nI (k + 1))), (1, .int (nI (onesN p k + p / 2 ^ k % 2))), (0, .int (nI p))]) hx hb dX5_ones_18 hl (k := 2) rfl (nI_add k 1) (by decide) rfl (fun ls hl => ?_)
        refine lv_goto (tgt := 4) hx hb dX5_ones_21 (by decide) ?_
        have hl9 : lv_has ls 3 [(0, .int (nI p)), (1, .int (nI (onesN p k + p / 2 ^ k % 2))), (2, .int (nI (k + 1)))] := lv_sub hl [2, 1, 0] rfl
        rw [show ([(0, .int (nI p)), (1, .int (nI (onesN p k + p / 2 ^ k % 2))), (2, .int (nI (k + 1)))] : List (Nat × Value)) = [(0, .int (nI p)), (1, .int (nI (onesN p (k + 1)))), (2, .int (nI (k + 1)))] from rfl] at hl9
        exact ih_2 (k + 1) (by first | assumption | omega) (by omega) H locs hP hD hS ls hl9
  have hl9 : lv_has ls 3 [(0, .int (nI p)), (1, .int 0), (2, .int 0)] := lv_sub hl [2, 1, 0] rfl
  rw [show ([(0, .int (nI p)), (1, .int 0), (2, .int 0)] : List (Nat × Value)) = [(0, .int (nI p)), (1, .int (nI (onesN p 0))), (2, .int (nI 0))] from rfl] at hl9
  exact lp_1 ((11 - 0) + 1) 0 (by first | assumption | omega) (Nat.lt_succ_self _) H locs hP hD hS ls hl9
set_option maxHeartbeats 4000000 in
set_option maxRecDepth 100000 in
theorem c_X5_bring (l : Launch) (D : va_G) (cI cB cO : ClassId) (sz : Nat) (a b N1 N2 : Nat) (f g : Nat → Int32) (i j : Nat) (h1 : i + 58 ≤ N1) (h2 : j + 58 ≤ N2) (h3 : N1 ≤ 1000) (h4 : N2 ≤ 1000) : CV l yX5_bring wsX5_bring ({ frames := 0, cells := 0, slots := 0, locals := 0 } : Room) D (tyL cI cB cO) [.ref a, .int (nI i), .ref b, .int (nI j)] [(a, .inl (cI, N1, .inl f)), (b, .inl (cI, N2, .inl g))] sz (fun (_ : Unit) => True) (fun (u : Unit) => [(a, .inl (cI, N1, .inl f)), (b, .inl (cI, N2, .inl (va_cpy f g i j 58)))]) 0 0 := by
  refine ct_of (cc := cX5_bring) (maxL := 5) (ret := none) (own := RX5) (Qc := QV D (fun (_ : Unit) => True) (fun (u : Unit) => [(a, .inl (cI, N1, .inl f)), (b, .inl (cI, N2, .inl (va_cpy f g i j 58)))])) (by decide) rfl rfl (Nat.le_of_ble_eq_true rfl) ?_
  intro pM eM sM mM below meth cM AM ls H locs hx hb hr hts hown hlocks hml hin hK hP hD hS hA hSt hl
  have hl : lv_has ls 5 [(0, .ref a), (1, .int (nI i)), (2, .ref b), (3, .int (nI j))] := hl
  refine lv_iconst (v := 0) hx hb dX5_bring_0 (by decide) ?_
  refine lv_istore (lv' := [(4, .int 0), (0, .ref a), (1, .int (nI i)), (2, .ref b), (3, .int (nI j))]) hx hb dX5_bring_1 hl (by decide) rfl (fun ls hl => ?_)
  have lp_1 : ∀ (nn : Nat) (k : Nat), (k ≤ 58) → (58 - k) < nn → ∀ (H : Heap) (locs : List Loc), va_P D vwCl [(a, .inl (cI, N1, .inl f)), (b, .inl (cI, N2, .inl (va_cpy f g i j k)))] H → va_D AM [(a, .inl (cI, N1, .inl f)), (b, .inl (cI, N2, .inl (va_cpy f g i j k)))] → va_S AM sM.heap H locs → ∀ (ls : Array Slot), lv_has ls 5 [(0, .ref a), (1, .int (nI i)), (2, .ref b), (3, .int (nI j)), (4, .int (nI k))] → W pM l eM ({ frames := 0, cells := 0, slots := 0, locals := 0 } : Room) sM mM ([.ref a, .int (nI i), .ref b, .int (nI j)] : List Value).toArray below meth cM H locs 0 0 (MQ below (QV D (fun (_ : Unit) => True) (fun (u : Unit) => [(a, .inl (cI, N1, .inl f)), (b, .inl (cI, N2, .inl (va_cpy f g i j 58)))]) AM) ([.ref a, .int (nI i), .ref b, .int (nI j)] : List Value).toArray sM 0 0 AM) (F0 mM 3 ls []) := by
    intro nn
    induction nn with
    | zero =>
      intro k hk hm
      exact absurd hm (Nat.not_lt_zero _)
    | succ nn ih_2 =>
      intro k hk hm H locs hP hD hS ls hl
      refine lv_iload hx hb dX5_bring_3 (lv_at hl 4 rfl) ?_
      refine lv_bipush (v := 58) hx hb dX5_bring_5 (by decide) ?_
      refine lv_icmp_ge (tgt := 28) hx hb dX5_bring_7 (by decide) (fun c_3 => ?_) (fun c_3 => ?_)
      · have c_3 := Int32.not_lt.mpr c_3
        have c_3 : ¬ k < 58 := fun h => c_3 ((nI_ltI (a := k) (b := 58) (by omega) (by decide)).mpr h)
        obtain rfl : 58 = k := by omega
        skip
        refine e_v (u := ()) hx hb hr hlocks hP hD hS dX5_bring_28 ?_ ?_
        · rfl
        · trivial
      · have c_3 := Int32.not_le.mp c_3
        have c_3 : k < 58 := (nI_ltI (a := k) (b := 58) (by omega) (by decide)).mp c_3
        refine lv_aload_n hx hb dX5_bring_10 rfl (lv_at hl 2 rfl) ?_
        refine lv_iload_n hx hb dX5_bring_11 rfl (lv_at hl 3 rfl) ?_
        refine lv_iload hx hb dX5_bring_12 (lv_at hl 4 rfl) ?_
        refine lv_iadd hx hb dX5_bring_14 ?_
        refine e_n (y := nI (j + k)) (nI_add j k) ?_
        refine lv_aload_n hx hb dX5_bring_15 rfl (lv_at hl 0 rfl) ?_
        refine lv_iload_n hx hb dX5_bring_16 rfl (lv_at hl 1 rfl) ?_
        refine lv_iload hx hb dX5_bring_17 (lv_at hl 4 rfl) ?_
        refine lv_iadd hx hb dX5_bring_19 ?_
        refine e_n (y := nI (i + k)) (nI_add i k) ?_
        refine va_iald hx hb hK hP 0 0 rfl rfl (vp_in_nI (by omega) (by omega)) dX5_bring_20 ?_
        refine e_n (y := f (i + k)) (congrArg f (nI_clamp (by omega))) ?_
        refine va_iast hx hb hK hP hD hS 1 0 rfl rfl (vp_in_nI (by omega) (by omega)) dX5_bring_21 (fun H locs hP hD hS => ?_)
        rw [show Int32.toNatClampNeg (nI (j + k)) = j + k from (nI_clamp (by omega))] at hP hD
        have hP : va_P D vwCl [(a, .inl (cI, N1, .inl f)), (b, .inl (cI, N2, .inl (upd (va_cpy f g i j k) (j + k) (f (i + k)))))] H := hP
        have hD : va_D AM [(a, .inl (cI, N1, .inl f)), (b, .inl (cI, N2, .inl (upd (va_cpy f g i j k) (j + k) (f (i + k)))))] := hD
        refine lv_iinc (v := nI (k + 1)) (lv' := [(4, .int (nI (k + 1))), (0, .ref a), (1, .int (nI i)), (2, .ref b), (3, .int (nI j))]) hx hb dX5_bring_22 hl (k := 4) rfl (nI_add k 1) (by decide) rfl (fun ls hl => ?_)
        refine lv_goto (tgt := 3) hx hb dX5_bring_25 (by decide) ?_
        rw [show upd (va_cpy f g i j k) (j + k) (f (i + k)) = va_cpy f g i j (k + 1) from cpy_s] at hP hD
        have hl9 : lv_has ls 5 [(0, .ref a), (1, .int (nI i)), (2, .ref b), (3, .int (nI j)), (4, .int (nI (k + 1)))] := lv_sub hl [1, 2, 3, 4, 0] rfl
        exact ih_2 (k + 1) (by first | assumption | omega) (by omega) H locs hP hD hS ls hl9
  rw [show g = va_cpy f g i j 0 from cpy_0] at hP hD
  have hl9 : lv_has ls 5 [(0, .ref a), (1, .int (nI i)), (2, .ref b), (3, .int (nI j)), (4, .int 0)] := lv_sub hl [1, 2, 3, 4, 0] rfl
  rw [show ([(0, .ref a), (1, .int (nI i)), (2, .ref b), (3, .int (nI j)), (4, .int 0)] : List (Nat × Value)) = [(0, .ref a), (1, .int (nI i)), (2, .ref b), (3, .int (nI j)), (4, .int (nI 0))] from rfl] at hl9
  exact lp_1 ((58 - 0) + 1) 0 (by first | assumption | omega) (Nat.lt_succ_self _) H locs hP hD hS ls hl9
theorem in_X5_isSpan_5 : ∀ w ∈ wsX50, w ∈ wsX5_isSpan := fun _ h => List.mem_cons_of_mem _ (List.mem_append_right _ h)
set_option maxHeartbeats 4000000 in
set_option maxRecDepth 100000 in
theorem c_X5_isSpan (l : Launch) (D : va_G) (cI cB cO : ClassId) (sz : Nat) (m0 g0 g1 g2 g3 g4 g5 g6 g7 g8 ms N ax : Nat) (fa ho la fs : Int32) (n : Nat) (P : Int32) (F G : Nat → Int32) (i : Int32)  : CI l yX5_isSpan wsX5_isSpan ({ frames := 1, cells := 0, slots := 0, locals := 22 } : Room) D (tyL cI cB cO) [.ref m0, .int i] [(m0, .inr (5, [.ref g0, .ref g1, .ref g2, .int (nI ms), .ref g3, .ref g4, .int (nI N), .int (nI ax), .ref g5, .ref g6, .int fa, .int ho, .int la, .int fs, .ref g7, .ref g8])), (g0, .inl (cI, 58, .inl (rowL (n, P, F, G))))] sz (fun (r : Int32) (_ : Unit) => r = bI (inR i 0 (nI n - 1))) (fun (u : Unit) => [(m0, .inr (5, [.ref g0, .ref g1, .ref g2, .int (nI ms), .ref g3, .ref g4, .int (nI N), .int (nI ax), .ref g5, .ref g6, .int fa, .int ho, .int la, .int fs, .ref g7, .ref g8])), (g0, .inl (cI, 58, .inl (rowL (n, P, F, G))))]) 0 0 := by
  refine ct_of (cc := cX5_isSpan) (maxL := 2) (ret := some .boolean) (own := RX5) (Qc := QI D (fun (r : Int32) (_ : Unit) => r = bI (inR i 0 (nI n - 1))) (fun (u : Unit) => [(m0, .inr (5, [.ref g0, .ref g1, .ref g2, .int (nI ms), .ref g3, .ref g4, .int (nI N), .int (nI ax), .ref g5, .ref g6, .int fa, .int ho, .int la, .int fs, .ref g7, .ref g8])), (g0, .inl (cI, 58, .inl (rowL (n, P, F, G))))])) (by decide) rfl rfl (Nat.le_of_ble_eq_true rfl) ?_
  intro pM eM sM mM below meth cM AM ls H locs hx hb hr hts hown hlocks hml hin hK hP hD hS hA hSt hl
  have hl : lv_has ls 2 [(0, .ref m0), (1, .int i)] := hl
  refine lv_iload_n hx hb dX5_isSpan_0 rfl (lv_at hl 1 rfl) ?_
  refine lv_iconst (v := 0) hx hb dX5_isSpan_1 (by decide) ?_
  refine lv_aload_n hx hb dX5_isSpan_2 rfl (lv_at hl 0 rfl) ?_
  refine va_get (D := D) (ci := 5) (v := .ref g0) (C := RX5) (T := TX5) (N := 16) hx hb hts in_X5_isSpan_5 hown hK hP 0 rfl rfl 0 (by decide) (hts (.fieldLink RX5 7 "HoseSpansModel" "now" "[I") (List.mem_of_getElem? (i := 1) (by decide +kernel))) (fun _ h9 => h9) rfl dX5_isSpan_3 ?_
  refine lv_iconst (v := 0) hx hb dX5_isSpan_6 (by decide) ?_
  refine va_iald hx hb hK hP 1 0 rfl rfl (vp_in_nI (n := 0) (by decide) (by decide)) dX5_isSpan_7 ?_
  refine e_n (y := (rowL (n, P, F, G)) 0) (congrArg (rowL (n, P, F, G)) (by decide)) ?_
  refine e_n (y := nI n) rfl ?_
  refine lv_iconst (v := 1) hx hb dX5_isSpan_8 (by decide) ?_
  refine lv_isub hx hb dX5_isSpan_9 ?_
  refine k_i (va_runS (As := [.int i, .int 0, .int ((nI n) - 1)]) (rest := []) ⟨hx, hb, hml, hown, hts⟩ (c_X5_in l D cI cB cO H.size i 0 ((nI n) - 1) ) (va_cwS 3 hts gX5_isSpan_X5_in rfl rfl rfl (by decide +kernel) ⟨Nat.le_of_ble_eq_true rfl, Nat.le_of_ble_eq_true rfl⟩) (preS_of hK hP hD hS hA hSt [] (by decide) rfl) rfl rfl hl.1 rfl (lv_room (Nat.le_of_ble_eq_true rfl)) dX5_isSpan_10 ⟨Nat.le_of_ble_eq_true rfl, Nat.le_of_ble_eq_true rfl⟩) hP hD hS hA [] [0, 1] [0, 1] [(m0, .inr (5, [.ref g0, .ref g1, .ref g2, .int (nI ms), .ref g3, .ref g4, .int (nI N), .int (nI ax), .ref g5, .ref g6, .int fa, .int ho, .int la, .int fs, .ref g7, .ref g8])), (g0, .inl (cI, 58, .inl (rowL (n, P, F, G))))] (fun (u_1 : Unit) => [(m0, .inr (5, [.ref g0, .ref g1, .ref g2, .int (nI ms), .ref g3, .ref g4, .int (nI N), .int (nI ax), .ref g5, .ref g6, .int fa, .int ho, .int la, .int fs, .ref g7, .ref g8])), (g0, .inl (cI, 58, .inl (rowL (n, P, F, G))))]) rfl rfl (by decide) (by decide) (by decide) (fun _ => rfl) (fun r_1 u_1 H locs q_1 hP hD hS => ?_)
  obtain rfl : r_1 = bI (inR i 0 ((nI n) - 1)) := q_1
  refine e_z (u := ()) hx hb hr (by first | rfl | exact bI_nar _) hlocks hP hD hS dX5_isSpan_13 ?_ ?_
  · rfl
  · rfl
theorem in_X5_isNode_5 : ∀ w ∈ wsX50, w ∈ wsX5_isNode := fun _ h => List.mem_cons_of_mem _ (List.mem_append_right _ h)
set_option maxHeartbeats 4000000 in
set_option maxRecDepth 100000 in
theorem c_X5_isNode (l : Launch) (D : va_G) (cI cB cO : ClassId) (sz : Nat) (m0 g0 g1 g2 g3 g4 g5 g6 g7 g8 ms N ax : Nat) (fa ho la fs : Int32) (n : Nat) (P : Int32) (F G : Nat → Int32) (i : Int32)  : CI l yX5_isNode wsX5_isNode ({ frames := 1, cells := 0, slots := 0, locals := 22 } : Room) D (tyL cI cB cO) [.ref m0, .int i] [(m0, .inr (5, [.ref g0, .ref g1, .ref g2, .int (nI ms), .ref g3, .ref g4, .int (nI N), .int (nI ax), .ref g5, .ref g6, .int fa, .int ho, .int la, .int fs, .ref g7, .ref g8])), (g0, .inl (cI, 58, .inl (rowL (n, P, F, G))))] sz (fun (r : Int32) (_ : Unit) => r = bI (inR i 0 (nI n))) (fun (u : Unit) => [(m0, .inr (5, [.ref g0, .ref g1, .ref g2, .int (nI ms), .ref g3, .ref g4, .int (nI N), .int (nI ax), .ref g5, .ref g6, .int fa, .int ho, .int la, .int fs, .ref g7, .ref g8])), (g0, .inl (cI, 58, .inl (rowL (n, P, F, G))))]) 0 0 := by
  refine ct_of (cc := cX5_isNode) (maxL := 2) (ret := some .boolean) (own := RX5) (Qc := QI D (fun (r : Int32) (_ : Unit) => r = bI (inR i 0 (nI n))) (fun (u : Unit) => [(m0, .inr (5, [.ref g0, .ref g1, .ref g2, .int (nI ms), .ref g3, .ref g4, .int (nI N), .int (nI ax), .ref g5, .ref g6, .int fa, .int ho, .int la, .int fs, .ref g7, .ref g8])), (g0, .inl (cI, 58, .inl (rowL (n, P, F, G))))])) (by decide) rfl rfl (Nat.le_of_ble_eq_true rfl) ?_
  intro pM eM sM mM below meth cM AM ls H locs hx hb hr hts hown hlocks hml hin hK hP hD hS hA hSt hl
  have hl : lv_has ls 2 [(0, .ref m0), (1, .int i)] := hl
  refine lv_iload_n hx hb dX5_isNode_0 rfl (lv_at hl 1 rfl) ?_
  refine lv_iconst (v := 0) hx hb dX5_isNode_1 (by decide) ?_
  refine lv_aload_n hx hb dX5_isNode_2 rfl (lv_at hl 0 rfl) ?_
  refine va_get (D := D) (ci := 5) (v := .ref g0) (C := RX5) (T := TX5) (N := 16) hx hb hts in_X5_isNode_5 hown hK hP 0 rfl rfl 0 (by decide) (hts (.fieldLink RX5 7 "HoseSpansModel" "now" "[I") (List.mem_of_getElem? (i := 1) (by decide +kernel))) (fun _ h9 => h9) rfl dX5_isNode_3 ?_
  refine lv_iconst (v := 0) hx hb dX5_isNode_6 (by decide) ?_
  refine va_iald hx hb hK hP 1 0 rfl rfl (vp_in_nI (n := 0) (by decide) (by decide)) dX5_isNode_7 ?_
  refine e_n (y := (rowL (n, P, F, G)) 0) (congrArg (rowL (n, P, F, G)) (by decide)) ?_
  refine e_n (y := nI n) rfl ?_
  refine k_i (va_runS (As := [.int i, .int 0, .int (nI n)]) (rest := []) ⟨hx, hb, hml, hown, hts⟩ (c_X5_in l D cI cB cO H.size i 0 (nI n) ) (va_cwS 3 hts gX5_isNode_X5_in rfl rfl rfl (by decide +kernel) ⟨Nat.le_of_ble_eq_true rfl, Nat.le_of_ble_eq_true rfl⟩) (preS_of hK hP hD hS hA hSt [] (by decide) rfl) rfl rfl hl.1 rfl (lv_room (Nat.le_of_ble_eq_true rfl)) dX5_isNode_8 ⟨Nat.le_of_ble_eq_true rfl, Nat.le_of_ble_eq_true rfl⟩) hP hD hS hA [] [0, 1] [0, 1] [(m0, .inr (5, [.ref g0, .ref g1, .ref g2, .int (nI ms), .ref g3, .ref g4, .int (nI N), .int (nI ax), .ref g5, .ref g6, .int fa, .int ho, .int la, .int fs, .ref g7, .ref g8])), (g0, .inl (cI, 58, .inl (rowL (n, P, F, G))))] (fun (u_1 : Unit) => [(m0, .inr (5, [.ref g0, .ref g1, .ref g2, .int (nI ms), .ref g3, .ref g4, .int (nI N), .int (nI ax), .ref g5, .ref g6, .int fa, .int ho, .int la, .int fs, .ref g7, .ref g8])), (g0, .inl (cI, 58, .inl (rowL (n, P, F, G))))]) rfl rfl (by decide) (by decide) (by decide) (fun _ => rfl) (fun r_1 u_1 H locs q_1 hP hD hS => ?_)
  obtain rfl : r_1 = bI (inR i 0 (nI n)) := q_1
  refine e_z (u := ()) hx hb hr (by first | rfl | exact bI_nar _) hlocks hP hD hS dX5_isNode_11 ?_ ?_
  · rfl
  · rfl
theorem in_X5_ofSpan_5 : ∀ w ∈ wsX50, w ∈ wsX5_ofSpan := fun _ h => List.mem_cons_of_mem _ (List.mem_append_right _ h)
set_option maxHeartbeats 4000000 in
set_option maxRecDepth 100000 in
theorem c_X5_ofSpan (l : Launch) (D : va_G) (cI cB cO : ClassId) (sz : Nat) (m0 g0 g1 g2 g3 g4 g5 g6 g7 g8 ms N ax : Nat) (fa ho la fs : Int32) (n : Nat) (P : Int32) (F G : Nat → Int32) (i w : Nat) (hi : i * 5 + w < 50) : CI l yX5_ofSpan wsX5_ofSpan ({ frames := 0, cells := 0, slots := 0, locals := 0 } : Room) D (tyL cI cB cO) [.ref m0, .int (nI i), .int (nI w)] [(m0, .inr (5, [.ref g0, .ref g1, .ref g2, .int (nI ms), .ref g3, .ref g4, .int (nI N), .int (nI ax), .ref g5, .ref g6, .int fa, .int ho, .int la, .int fs, .ref g7, .ref g8])), (g0, .inl (cI, 58, .inl (rowL (n, P, F, G))))] sz (fun (r : Int32) (_ : Unit) => r = F (i * 5 + w)) (fun (u : Unit) => [(m0, .inr (5, [.ref g0, .ref g1, .ref g2, .int (nI ms), .ref g3, .ref g4, .int (nI N), .int (nI ax), .ref g5, .ref g6, .int fa, .int ho, .int la, .int fs, .ref g7, .ref g8])), (g0, .inl (cI, 58, .inl (rowL (n, P, F, G))))]) 0 0 := by
  refine ct_of (cc := cX5_ofSpan) (maxL := 3) (ret := some .int) (own := RX5) (Qc := QI D (fun (r : Int32) (_ : Unit) => r = F (i * 5 + w)) (fun (u : Unit) => [(m0, .inr (5, [.ref g0, .ref g1, .ref g2, .int (nI ms), .ref g3, .ref g4, .int (nI N), .int (nI ax), .ref g5, .ref g6, .int fa, .int ho, .int la, .int fs, .ref g7, .ref g8])), (g0, .inl (cI, 58, .inl (rowL (n, P, F, G))))])) (by decide) rfl rfl (Nat.le_of_ble_eq_true rfl) ?_
  intro pM eM sM mM below meth cM AM ls H locs hx hb hr hts hown hlocks hml hin hK hP hD hS hA hSt hl
  have hl : lv_has ls 3 [(0, .ref m0), (1, .int (nI i)), (2, .int (nI w))] := hl
  refine lv_aload_n hx hb dX5_ofSpan_0 rfl (lv_at hl 0 rfl) ?_
  refine va_get (D := D) (ci := 5) (v := .ref g0) (C := RX5) (T := TX5) (N := 16) hx hb hts in_X5_ofSpan_5 hown hK hP 0 rfl rfl 0 (by decide) (hts (.fieldLink RX5 7 "HoseSpansModel" "now" "[I") (List.mem_of_getElem? (i := 1) (by decide +kernel))) (fun _ h9 => h9) rfl dX5_ofSpan_1 ?_
  refine lv_bipush (v := 8) hx hb dX5_ofSpan_4 (by decide) ?_
  refine lv_iconst (v := 5) hx hb dX5_ofSpan_6 (by decide) ?_
  refine lv_iload_n hx hb dX5_ofSpan_7 rfl (lv_at hl 1 rfl) ?_
  refine lv_imul hx hb dX5_ofSpan_8 ?_
  refine e_n (y := nI (5 * i)) (pk_mul 5 i) ?_
  refine lv_iadd hx hb dX5_ofSpan_9 ?_
  refine e_n (y := nI (8 + 5 * i)) (nI_add 8 (5 * i)) ?_
  refine lv_iload_n hx hb dX5_ofSpan_10 rfl (lv_at hl 2 rfl) ?_
  refine lv_iadd hx hb dX5_ofSpan_11 ?_
  refine e_n (y := nI (8 + 5 * i + w)) (nI_add (8 + 5 * i) w) ?_
  refine va_iald hx hb hK hP 1 0 rfl rfl (vp_in_nI (by omega) (by decide)) dX5_ofSpan_12 ?_
  refine e_n (y := (rowL (n, P, F, G)) (8 + 5 * i + w)) (congrArg (rowL (n, P, F, G)) (nI_clamp (by omega))) ?_
  refine e_n (y := F (i * 5 + w)) (row_f i w) ?_
  refine e_i (u := ()) hx hb hr hlocks hP hD hS dX5_ofSpan_13 ?_ ?_
  · rfl
  · rfl
set_option maxHeartbeats 4000000 in
set_option maxRecDepth 100000 in
theorem c_X5_lengthsOf (l : Launch) (D : va_G) (cI cB cO : ClassId) (sz : Nat) (m0 g0 g1 g2 g3 g4 g5 g6 g7 g8 ms N ax : Nat) (fa ho la fs : Int32) (n : Nat) (P : Int32) (F G : Nat → Int32) (i : Nat) (hi : i < 10) : CI l yX5_lengthsOf wsX5_lengthsOf ({ frames := 1, cells := 0, slots := 0, locals := 22 } : Room) D (tyL cI cB cO) [.ref m0, .int (nI i)] [(m0, .inr (5, [.ref g0, .ref g1, .ref g2, .int (nI ms), .ref g3, .ref g4, .int (nI N), .int (nI ax), .ref g5, .ref g6, .int fa, .int ho, .int la, .int fs, .ref g7, .ref g8])), (g0, .inl (cI, 58, .inl (rowL (n, P, F, G))))] sz (fun (r : Int32) (_ : Unit) => r = hosesF F i) (fun (u : Unit) => [(m0, .inr (5, [.ref g0, .ref g1, .ref g2, .int (nI ms), .ref g3, .ref g4, .int (nI N), .int (nI ax), .ref g5, .ref g6, .int fa, .int ho, .int la, .int fs, .ref g7, .ref g8])), (g0, .inl (cI, 58, .inl (rowL (n, P, F, G))))]) 0 0 := by
  refine ct_of (cc := cX5_lengthsOf) (maxL := 2) (ret := some .int) (own := RX5) (Qc := QI D (fun (r : Int32) (_ : Unit) => r = hosesF F i) (fun (u : Unit) => [(m0, .inr (5, [.ref g0, .ref g1, .ref g2, .int (nI ms), .ref g3, .ref g4, .int (nI N), .int (nI ax), .ref g5, .ref g6, .int fa, .int ho, .int la, .int fs, .ref g7, .ref g8])), (g0, .inl (cI, 58, .inl (rowL (n, P, F, G))))])) (by decide) rfl rfl (Nat.le_of_ble_eq_true rfl) ?_
  intro pM eM sM mM below meth cM AM ls H locs hx hb hr hts hown hlocks hml hin hK hP hD hS hA hSt hl
  have hl : lv_has ls 2 [(0, .ref m0), (1, .int (nI i))] := hl
  refine lv_aload_n hx hb dX5_lengthsOf_0 rfl (lv_at hl 0 rfl) ?_
  refine lv_iload_n hx hb dX5_lengthsOf_1 rfl (lv_at hl 1 rfl) ?_
  refine lv_iconst (v := 3) hx hb dX5_lengthsOf_2 (by decide) ?_
  refine k_i (va_runV (As := [.int (nI i), .int (nI 3)]) (rest := []) ⟨hx, hb, hml, hown, hts⟩ (c_X5_ofSpan l D cI cB cO H.size m0 g0 g1 g2 g3 g4 g5 g6 g7 g8 ms N ax fa ho la fs n P F G i 3 (by first | assumption | omega)) (cwV 2 hts gX5_lengthsOf_X5_ofSpan rfl rfl rfl (by decide +kernel) ⟨Nat.le_of_ble_eq_true rfl, Nat.le_of_ble_eq_true rfl⟩) (preV_of hK hP hD hS hA hSt [0, 1] (by decide) rfl 0 (ci := 5) rfl rfl) rfl rfl hl.1 rfl (lv_room (Nat.le_of_ble_eq_true rfl)) dX5_lengthsOf_3 ⟨Nat.le_of_ble_eq_true rfl, Nat.le_of_ble_eq_true rfl⟩) hP hD hS hA [0, 1] [] [0, 1] [] (fun (u_1 : Unit) => [(m0, .inr (5, [.ref g0, .ref g1, .ref g2, .int (nI ms), .ref g3, .ref g4, .int (nI N), .int (nI ax), .ref g5, .ref g6, .int fa, .int ho, .int la, .int fs, .ref g7, .ref g8])), (g0, .inl (cI, 58, .inl (rowL (n, P, F, G))))]) rfl rfl (by decide) (by decide) (by decide) (fun _ => rfl) (fun r_1 u_1 H locs q_1 hP hD hS => ?_)
  obtain rfl : r_1 = F (i * 5 + 3) := q_1
  refine lv_iconst (v := 1) hx hb dX5_lengthsOf_6 (by decide) ?_
  refine lv_icmp_ne (tgt := 21) hx hb dX5_lengthsOf_7 (by decide) (fun c_2 => ?_) (fun c_2 => ?_)
  · refine lv_aload_n hx hb dX5_lengthsOf_21 rfl (lv_at hl 0 rfl) ?_
    refine lv_iload_n hx hb dX5_lengthsOf_22 rfl (lv_at hl 1 rfl) ?_
    refine lv_iconst (v := 0) hx hb dX5_lengthsOf_23 (by decide) ?_
    refine k_i (va_runV (As := [.int (nI i), .int (nI 0)]) (rest := []) ⟨hx, hb, hml, hown, hts⟩ (c_X5_ofSpan l D cI cB cO H.size m0 g0 g1 g2 g3 g4 g5 g6 g7 g8 ms N ax fa ho la fs n P F G i 0 (by first | assumption | omega)) (cwV 2 hts gX5_lengthsOf_X5_ofSpan rfl rfl rfl (by decide +kernel) ⟨Nat.le_of_ble_eq_true rfl, Nat.le_of_ble_eq_true rfl⟩) (preV_of hK hP hD hS hA hSt [0, 1] (by decide) rfl 0 (ci := 5) rfl rfl) rfl rfl hl.1 rfl (lv_room (Nat.le_of_ble_eq_true rfl)) dX5_lengthsOf_24 ⟨Nat.le_of_ble_eq_true rfl, Nat.le_of_ble_eq_true rfl⟩) hP hD hS hA [0, 1] [] [0, 1] [] (fun (u_3 : Unit) => [(m0, .inr (5, [.ref g0, .ref g1, .ref g2, .int (nI ms), .ref g3, .ref g4, .int (nI N), .int (nI ax), .ref g5, .ref g6, .int fa, .int ho, .int la, .int fs, .ref g7, .ref g8])), (g0, .inl (cI, 58, .inl (rowL (n, P, F, G))))]) rfl rfl (by decide) (by decide) (by decide) (fun _ => rfl) (fun r_3 u_3 H locs q_3 hP hD hS => ?_)
    obtain rfl : r_3 = F (i * 5 + 0) := q_3
    refine e_i (u := ()) hx hb hr hlocks hP hD hS dX5_lengthsOf_27 ?_ ?_
    · rfl
    · unfold hosesF; first | (rw [if_pos (by assumption)]) | (rw [if_neg (by assumption)])
  · refine lv_iconst (v := 2) hx hb dX5_lengthsOf_10 (by decide) ?_
    refine lv_aload_n hx hb dX5_lengthsOf_11 rfl (lv_at hl 0 rfl) ?_
    refine lv_iload_n hx hb dX5_lengthsOf_12 rfl (lv_at hl 1 rfl) ?_
    refine lv_iconst (v := 0) hx hb dX5_lengthsOf_13 (by decide) ?_
    refine k_i (va_runV (As := [.int (nI i), .int (nI 0)]) (rest := [.int 2]) ⟨hx, hb, hml, hown, hts⟩ (c_X5_ofSpan l D cI cB cO H.size m0 g0 g1 g2 g3 g4 g5 g6 g7 g8 ms N ax fa ho la fs n P F G i 0 (by first | assumption | omega)) (cwV 2 hts gX5_lengthsOf_X5_ofSpan rfl rfl rfl (by decide +kernel) ⟨Nat.le_of_ble_eq_true rfl, Nat.le_of_ble_eq_true rfl⟩) (preV_of hK hP hD hS hA hSt [0, 1] (by decide) rfl 0 (ci := 5) rfl rfl) rfl rfl hl.1 rfl (lv_room (Nat.le_of_ble_eq_true rfl)) dX5_lengthsOf_14 ⟨Nat.le_of_ble_eq_true rfl, Nat.le_of_ble_eq_true rfl⟩) hP hD hS hA [0, 1] [] [0, 1] [] (fun (u_4 : Unit) => [(m0, .inr (5, [.ref g0, .ref g1, .ref g2, .int (nI ms), .ref g3, .ref g4, .int (nI N), .int (nI ax), .ref g5, .ref g6, .int fa, .int ho, .int la, .int fs, .ref g7, .ref g8])), (g0, .inl (cI, 58, .inl (rowL (n, P, F, G))))]) rfl rfl (by decide) (by decide) (by decide) (fun _ => rfl) (fun r_4 u_4 H locs q_4 hP hD hS => ?_)
    obtain rfl : r_4 = F (i * 5 + 0) := q_4
    refine lv_imul hx hb dX5_lengthsOf_17 ?_
    refine lv_goto (tgt := 27) hx hb dX5_lengthsOf_18 (by decide) ?_
    refine e_i (u := ()) hx hb hr hlocks hP hD hS dX5_lengthsOf_27 ?_ ?_
    · rfl
    · unfold hosesF; first | (rw [if_pos (by assumption)]) | (rw [if_neg (by assumption)])
set_option maxHeartbeats 4000000 in
set_option maxRecDepth 100000 in
theorem c_X5_hardOf (l : Launch) (D : va_G) (cI cB cO : ClassId) (sz : Nat) (s : Int32) (hs : vp_in s 4) : CI l yX5_hardOf wsX5_hardOf ({ frames := 0, cells := 0, slots := 0, locals := 0 } : Room) D (tyL cI cB cO) [.int s] [] sz (fun (r : Int32) (_ : Unit) => r = kHard (pl s)) (fun (u : Unit) => []) 0 0 := by
  refine ct_of (cc := cX5_hardOf) (maxL := 1) (ret := some .int) (own := RX5) (Qc := QI D (fun (r : Int32) (_ : Unit) => r = kHard (pl s)) (fun (u : Unit) => [])) (by decide) rfl rfl (Nat.le_of_ble_eq_true rfl) ?_
  intro pM eM sM mM below meth cM AM ls H locs hx hb hr hts hown hlocks hml hin hK hP hD hS hA hSt hl
  have hl : lv_has ls 1 [(0, .int s)] := hl
  refine lv_iload_n hx hb dX5_hardOf_0 rfl (lv_at hl 0 rfl) ?_
  refine lv_if_ne (tgt := 9) hx hb dX5_hardOf_1 (by decide) (fun c_1 => ?_) (fun c_1 => ?_)
  · refine lv_iload_n hx hb dX5_hardOf_9 rfl (lv_at hl 0 rfl) ?_
    refine lv_iconst (v := 1) hx hb dX5_hardOf_10 (by decide) ?_
    refine lv_icmp_ne (tgt := 19) hx hb dX5_hardOf_11 (by decide) (fun c_2 => ?_) (fun c_2 => ?_)
    · refine lv_iload_n hx hb dX5_hardOf_19 rfl (lv_at hl 0 rfl) ?_
      refine lv_iconst (v := 2) hx hb dX5_hardOf_20 (by decide) ?_
      refine lv_icmp_ne (tgt := 29) hx hb dX5_hardOf_21 (by decide) (fun c_3 => ?_) (fun c_3 => ?_)
      · refine lv_iconst (v := 2) hx hb dX5_hardOf_29 (by decide) ?_
        refine e_i (u := ()) hx hb hr hlocks hP hD hS dX5_hardOf_30 ?_ ?_
        · rfl
        · first | (rw [show s = 0 by assumption]; rfl) | (rw [show s = 1 by assumption]; rfl) | (rw [show s = 2 by assumption]; rfl) | (rw [in4_3 hs (by assumption) (by assumption) (by assumption)]; rfl)
      · refine lv_bipush (v := 8) hx hb dX5_hardOf_24 (by decide) ?_
        refine lv_goto (tgt := 30) hx hb dX5_hardOf_26 (by decide) ?_
        refine e_i (u := ()) hx hb hr hlocks hP hD hS dX5_hardOf_30 ?_ ?_
        · rfl
        · first | (rw [show s = 0 by assumption]; rfl) | (rw [show s = 1 by assumption]; rfl) | (rw [show s = 2 by assumption]; rfl) | (rw [in4_3 hs (by assumption) (by assumption) (by assumption)]; rfl)
    · refine lv_bipush (v := 20) hx hb dX5_hardOf_14 (by decide) ?_
      refine lv_goto (tgt := 30) hx hb dX5_hardOf_16 (by decide) ?_
      refine e_i (u := ()) hx hb hr hlocks hP hD hS dX5_hardOf_30 ?_ ?_
      · rfl
      · first | (rw [show s = 0 by assumption]; rfl) | (rw [show s = 1 by assumption]; rfl) | (rw [show s = 2 by assumption]; rfl) | (rw [in4_3 hs (by assumption) (by assumption) (by assumption)]; rfl)
  · refine lv_bipush (v := 80) hx hb dX5_hardOf_4 (by decide) ?_
    refine lv_goto (tgt := 30) hx hb dX5_hardOf_6 (by decide) ?_
    refine e_i (u := ()) hx hb hr hlocks hP hD hS dX5_hardOf_30 ?_ ?_
    · rfl
    · first | (rw [show s = 0 by assumption]; rfl) | (rw [show s = 1 by assumption]; rfl) | (rw [show s = 2 by assumption]; rfl) | (rw [in4_3 hs (by assumption) (by assumption) (by assumption)]; rfl)
set_option maxHeartbeats 4000000 in
set_option maxRecDepth 100000 in
theorem c_X5_standsOf (l : Launch) (D : va_G) (cI cB cO : ClassId) (sz : Nat) (s : Int32) (hs : vp_in s 4) : CI l yX5_standsOf wsX5_standsOf ({ frames := 0, cells := 0, slots := 0, locals := 0 } : Room) D (tyL cI cB cO) [.int s] [] sz (fun (r : Int32) (_ : Unit) => r = kStands (pl s)) (fun (u : Unit) => []) 0 0 := by
  refine ct_of (cc := cX5_standsOf) (maxL := 1) (ret := some .int) (own := RX5) (Qc := QI D (fun (r : Int32) (_ : Unit) => r = kStands (pl s)) (fun (u : Unit) => [])) (by decide) rfl rfl (Nat.le_of_ble_eq_true rfl) ?_
  intro pM eM sM mM below meth cM AM ls H locs hx hb hr hts hown hlocks hml hin hK hP hD hS hA hSt hl
  have hl : lv_has ls 1 [(0, .int s)] := hl
  refine lv_iload_n hx hb dX5_standsOf_0 rfl (lv_at hl 0 rfl) ?_
  refine lv_if_ne (tgt := 9) hx hb dX5_standsOf_1 (by decide) (fun c_1 => ?_) (fun c_1 => ?_)
  · refine lv_iload_n hx hb dX5_standsOf_9 rfl (lv_at hl 0 rfl) ?_
    refine lv_iconst (v := 1) hx hb dX5_standsOf_10 (by decide) ?_
    refine lv_icmp_ne (tgt := 19) hx hb dX5_standsOf_11 (by decide) (fun c_2 => ?_) (fun c_2 => ?_)
    · refine lv_iload_n hx hb dX5_standsOf_19 rfl (lv_at hl 0 rfl) ?_
      refine lv_iconst (v := 2) hx hb dX5_standsOf_20 (by decide) ?_
      refine lv_icmp_ne (tgt := 30) hx hb dX5_standsOf_21 (by decide) (fun c_3 => ?_) (fun c_3 => ?_)
      · refine lv_sipush (v := 180) hx hb dX5_standsOf_30 (by decide) ?_
        refine e_i (u := ()) hx hb hr hlocks hP hD hS dX5_standsOf_33 ?_ ?_
        · rfl
        · first | (rw [show s = 0 by assumption]; rfl) | (rw [show s = 1 by assumption]; rfl) | (rw [show s = 2 by assumption]; rfl) | (rw [in4_3 hs (by assumption) (by assumption) (by assumption)]; rfl)
      · refine lv_sipush (v := 150) hx hb dX5_standsOf_24 (by decide) ?_
        refine lv_goto (tgt := 33) hx hb dX5_standsOf_27 (by decide) ?_
        refine e_i (u := ()) hx hb hr hlocks hP hD hS dX5_standsOf_33 ?_ ?_
        · rfl
        · first | (rw [show s = 0 by assumption]; rfl) | (rw [show s = 1 by assumption]; rfl) | (rw [show s = 2 by assumption]; rfl) | (rw [in4_3 hs (by assumption) (by assumption) (by assumption)]; rfl)
    · refine lv_bipush (v := 120) hx hb dX5_standsOf_14 (by decide) ?_
      refine lv_goto (tgt := 33) hx hb dX5_standsOf_16 (by decide) ?_
      refine e_i (u := ()) hx hb hr hlocks hP hD hS dX5_standsOf_33 ?_ ?_
      · rfl
      · first | (rw [show s = 0 by assumption]; rfl) | (rw [show s = 1 by assumption]; rfl) | (rw [show s = 2 by assumption]; rfl) | (rw [in4_3 hs (by assumption) (by assumption) (by assumption)]; rfl)
  · refine lv_bipush (v := 100) hx hb dX5_standsOf_4 (by decide) ?_
    refine lv_goto (tgt := 33) hx hb dX5_standsOf_6 (by decide) ?_
    refine e_i (u := ()) hx hb hr hlocks hP hD hS dX5_standsOf_33 ?_ ?_
    · rfl
    · first | (rw [show s = 0 by assumption]; rfl) | (rw [show s = 1 by assumption]; rfl) | (rw [show s = 2 by assumption]; rfl) | (rw [in4_3 hs (by assumption) (by assumption) (by assumption)]; rfl)
set_option maxHeartbeats 4000000 in
set_option maxRecDepth 100000 in
theorem c_X5_lossOf (l : Launch) (D : va_G) (cI cB cO : ClassId) (sz : Nat) (m0 g0 g1 g2 g3 g4 g5 g6 g7 g8 ms N ax : Nat) (fa ho la fs : Int32) (n : Nat) (P : Int32) (F G : Nat → Int32) (i : Nat) (q : Int32) (hi : i < 10) (hf : okFacts F) : CI l yX5_lossOf wsX5_lossOf ({ frames := 1, cells := 0, slots := 0, locals := 22 } : Room) D (tyL cI cB cO) [.ref m0, .int (nI i), .int q] [(m0, .inr (5, [.ref g0, .ref g1, .ref g2, .int (nI ms), .ref g3, .ref g4, .int (nI N), .int (nI ax), .ref g5, .ref g6, .int fa, .int ho, .int la, .int fs, .ref g7, .ref g8])), (g0, .inl (cI, 58, .inl (rowL (n, P, F, G))))] sz (fun (r : Int32) (_ : Unit) => r = lossF F i q) (fun (u : Unit) => [(m0, .inr (5, [.ref g0, .ref g1, .ref g2, .int (nI ms), .ref g3, .ref g4, .int (nI N), .int (nI ax), .ref g5, .ref g6, .int fa, .int ho, .int la, .int fs, .ref g7, .ref g8])), (g0, .inl (cI, 58, .inl (rowL (n, P, F, G))))]) 0 0 := by
  refine ct_of (cc := cX5_lossOf) (maxL := 4) (ret := some .int) (own := RX5) (Qc := QI D (fun (r : Int32) (_ : Unit) => r = lossF F i q) (fun (u : Unit) => [(m0, .inr (5, [.ref g0, .ref g1, .ref g2, .int (nI ms), .ref g3, .ref g4, .int (nI N), .int (nI ax), .ref g5, .ref g6, .int fa, .int ho, .int la, .int fs, .ref g7, .ref g8])), (g0, .inl (cI, 58, .inl (rowL (n, P, F, G))))])) (by decide) rfl rfl (Nat.le_of_ble_eq_true rfl) ?_
  intro pM eM sM mM below meth cM AM ls H locs hx hb hr hts hown hlocks hml hin hK hP hD hS hA hSt hl
  have hl : lv_has ls 4 [(0, .ref m0), (1, .int (nI i)), (2, .int q)] := hl
  refine lv_aload_n hx hb dX5_lossOf_0 rfl (lv_at hl 0 rfl) ?_
  refine lv_iload_n hx hb dX5_lossOf_1 rfl (lv_at hl 1 rfl) ?_
  refine lv_iconst (v := 3) hx hb dX5_lossOf_2 (by decide) ?_
  refine k_i (va_runV (As := [.int (nI i), .int (nI 3)]) (rest := []) ⟨hx, hb, hml, hown, hts⟩ (c_X5_ofSpan l D cI cB cO H.size m0 g0 g1 g2 g3 g4 g5 g6 g7 g8 ms N ax fa ho la fs n P F G i 3 (by first | assumption | omega | exact okFacts.sort (by assumption) (by omega))) (cwV 2 hts gX5_lossOf_X5_ofSpan rfl rfl rfl (by decide +kernel) ⟨Nat.le_of_ble_eq_true rfl, Nat.le_of_ble_eq_true rfl⟩) (preV_of hK hP hD hS hA hSt [0, 1] (by decide) rfl 0 (ci := 5) rfl rfl) rfl rfl hl.1 rfl (lv_room (Nat.le_of_ble_eq_true rfl)) dX5_lossOf_3 ⟨Nat.le_of_ble_eq_true rfl, Nat.le_of_ble_eq_true rfl⟩) hP hD hS hA [0, 1] [] [0, 1] [] (fun (u_1 : Unit) => [(m0, .inr (5, [.ref g0, .ref g1, .ref g2, .int (nI ms), .ref g3, .ref g4, .int (nI N), .int (nI ax), .ref g5, .ref g6, .int fa, .int ho, .int la, .int fs, .ref g7, .ref g8])), (g0, .inl (cI, 58, .inl (rowL (n, P, F, G))))]) rfl rfl (by decide) (by decide) (by decide) (fun _ => rfl) (fun r_1 u_1 H locs q_1 hP hD hS => ?_)
  obtain rfl : r_1 = F (i * 5 + 3) := q_1
  refine lv_iconst (v := 1) hx hb dX5_lossOf_6 (by decide) ?_
  refine lv_icmp_ne (tgt := 18) hx hb dX5_lossOf_7 (by decide) (fun c_2 => ?_) (fun c_2 => ?_)
  · refine lv_iload_n hx hb dX5_lossOf_18 rfl (lv_at hl 2 rfl) ?_
    refine lv_istore_n (lv' := [(3, .int q), (0, .ref m0), (1, .int (nI i)), (2, .int q)]) hx hb dX5_lossOf_19 rfl hl (by decide) rfl (fun ls hl => ?_)
    refine lv_aload_n hx hb dX5_lossOf_20 rfl (lv_at hl 1 rfl) ?_
    refine lv_iload_n hx hb dX5_lossOf_21 rfl (lv_at hl 2 rfl) ?_
    refine lv_iconst (v := 0) hx hb dX5_lossOf_22 (by decide) ?_
    refine k_i (va_runV (As := [.int (nI i), .int (nI 0)]) (rest := []) ⟨hx, hb, hml, hown, hts⟩ (c_X5_ofSpan l D cI cB cO H.size m0 g0 g1 g2 g3 g4 g5 g6 g7 g8 ms N ax fa ho la fs n P F G i 0 (by first | assumption | omega | exact okFacts.sort (by assumption) (by omega))) (cwV 2 hts gX5_lossOf_X5_ofSpan rfl rfl rfl (by decide +kernel) ⟨Nat.le_of_ble_eq_true rfl, Nat.le_of_ble_eq_true rfl⟩) (preV_of hK hP hD hS hA hSt [0, 1] (by decide) rfl 0 (ci := 5) rfl rfl) rfl rfl hl.1 rfl (lv_room (Nat.le_of_ble_eq_true rfl)) dX5_lossOf_23 ⟨Nat.le_of_ble_eq_true rfl, Nat.le_of_ble_eq_true rfl⟩) hP hD hS hA [0, 1] [] [0, 1] [] (fun (u_3 : Unit) => [(m0, .inr (5, [.ref g0, .ref g1, .ref g2, .int (nI ms), .ref g3, .ref g4, .int (nI N), .int (nI ax), .ref g5, .ref g6, .int fa, .int ho, .int la, .int fs, .ref g7, .ref g8])), (g0, .inl (cI, 58, .inl (rowL (n, P, F, G))))]) rfl rfl (by decide) (by decide) (by decide) (fun _ => rfl) (fun r_3 u_3 H locs q_3 hP hD hS => ?_)
    obtain rfl : r_3 = F (i * 5 + 0) := q_3
    refine lv_aload_n hx hb dX5_lossOf_26 rfl (lv_at hl 1 rfl) ?_
    refine lv_iload_n hx hb dX5_lossOf_27 rfl (lv_at hl 2 rfl) ?_
    refine lv_iconst (v := 1) hx hb dX5_lossOf_28 (by decide) ?_
    refine k_i (va_runV (As := [.int (nI i), .int (nI 1)]) (rest := [.int (F (i * 5 + 0))]) ⟨hx, hb, hml, hown, hts⟩ (c_X5_ofSpan l D cI cB cO H.size m0 g0 g1 g2 g3 g4 g5 g6 g7 g8 ms N ax fa ho la fs n P F G i 1 (by first | assumption | omega | exact okFacts.sort (by assumption) (by omega))) (cwV 2 hts gX5_lossOf_X5_ofSpan rfl rfl rfl (by decide +kernel) ⟨Nat.le_of_ble_eq_true rfl, Nat.le_of_ble_eq_true rfl⟩) (preV_of hK hP hD hS hA hSt [0, 1] (by decide) rfl 0 (ci := 5) rfl rfl) rfl rfl hl.1 rfl (lv_room (Nat.le_of_ble_eq_true rfl)) dX5_lossOf_29 ⟨Nat.le_of_ble_eq_true rfl, Nat.le_of_ble_eq_true rfl⟩) hP hD hS hA [0, 1] [] [0, 1] [] (fun (u_4 : Unit) => [(m0, .inr (5, [.ref g0, .ref g1, .ref g2, .int (nI ms), .ref g3, .ref g4, .int (nI N), .int (nI ax), .ref g5, .ref g6, .int fa, .int ho, .int la, .int fs, .ref g7, .ref g8])), (g0, .inl (cI, 58, .inl (rowL (n, P, F, G))))]) rfl rfl (by decide) (by decide) (by decide) (fun _ => rfl) (fun r_4 u_4 H locs q_4 hP hD hS => ?_)
    obtain rfl : r_4 = F (i * 5 + 1) := q_4
    refine k_i (va_runS (As := [.int (F (i * 5 + 1))]) (rest := [.int (F (i * 5 + 0))]) ⟨hx, hb, hml, hown, hts⟩ (c_X5_hardOf l D cI cB cO H.size (F (i * 5 + 1)) (by first | assumption | omega | exact okFacts.sort (by assumption) (by omega))) (va_cwS 1 hts gX5_lossOf_X5_hardOf rfl rfl rfl (by decide +kernel) ⟨Nat.le_of_ble_eq_true rfl, Nat.le_of_ble_eq_true rfl⟩) (preS_of hK hP hD hS hA hSt [] (by decide) rfl) rfl rfl hl.1 rfl (lv_room (Nat.le_of_ble_eq_true rfl)) dX5_lossOf_32 ⟨Nat.le_of_ble_eq_true rfl, Nat.le_of_ble_eq_true rfl⟩) hP hD hS hA [] [0, 1] [0, 1] [(m0, .inr (5, [.ref g0, .ref g1, .ref g2, .int (nI ms), .ref g3, .ref g4, .int (nI N), .int (nI ax), .ref g5, .ref g6, .int fa, .int ho, .int la, .int fs, .ref g7, .ref g8])), (g0, .inl (cI, 58, .inl (rowL (n, P, F, G))))] (fun (u_5 : Unit) => [(m0, .inr (5, [.ref g0, .ref g1, .ref g2, .int (nI ms), .ref g3, .ref g4, .int (nI N), .int (nI ax), .ref g5, .ref g6, .int fa, .int ho, .int la, .int fs, .ref g7, .ref g8])), (g0, .inl (cI, 58, .inl (rowL (n, P, F, G))))]) rfl rfl (by decide) (by decide) (by decide) (fun _ => rfl) (fun r_5 u_5 H locs q_5 hP hD hS => ?_)
    obtain rfl : r_5 = kHard (pl (F (i * 5 + 1))) := q_5
    refine lv_imul hx hb dX5_lossOf_35 ?_
    refine lv_iload_n hx hb dX5_lossOf_36 rfl (lv_at hl 0 rfl) ?_
    refine lv_imul hx hb dX5_lossOf_37 ?_
    refine lv_iload_n hx hb dX5_lossOf_38 rfl (lv_at hl 0 rfl) ?_
    refine lv_imul hx hb dX5_lossOf_39 ?_
    refine lv_bipush (v := 100) hx hb dX5_lossOf_40 (by decide) ?_
    refine lv_idiv hx hb dX5_lossOf_42 (by decide) ?_
    refine lv_aload_n hx hb dX5_lossOf_43 rfl (lv_at hl 1 rfl) ?_
    refine lv_iload_n hx hb dX5_lossOf_44 rfl (lv_at hl 2 rfl) ?_
    refine lv_iconst (v := 2) hx hb dX5_lossOf_45 (by decide) ?_
    refine k_i (va_runV (As := [.int (nI i), .int (nI 2)]) (rest := [.int (((((F (i * 5 + 0)) * (kHard (pl (F (i * 5 + 1))))) * q) * q) / 100)]) ⟨hx, hb, hml, hown, hts⟩ (c_X5_ofSpan l D cI cB cO H.size m0 g0 g1 g2 g3 g4 g5 g6 g7 g8 ms N ax fa ho la fs n P F G i 2 (by first | assumption | omega | exact okFacts.sort (by assumption) (by omega))) (cwV 2 hts gX5_lossOf_X5_ofSpan rfl rfl rfl (by decide +kernel) ⟨Nat.le_of_ble_eq_true rfl, Nat.le_of_ble_eq_true rfl⟩) (preV_of hK hP hD hS hA hSt [0, 1] (by decide) rfl 0 (ci := 5) rfl rfl) rfl rfl hl.1 rfl (lv_room (Nat.le_of_ble_eq_true rfl)) dX5_lossOf_46 ⟨Nat.le_of_ble_eq_true rfl, Nat.le_of_ble_eq_true rfl⟩) hP hD hS hA [0, 1] [] [0, 1] [] (fun (u_6 : Unit) => [(m0, .inr (5, [.ref g0, .ref g1, .ref g2, .int (nI ms), .ref g3, .ref g4, .int (nI N), .int (nI ax), .ref g5, .ref g6, .int fa, .int ho, .int la, .int fs, .ref g7, .ref g8])), (g0, .inl (cI, 58, .inl (rowL (n, P, F, G))))]) rfl rfl (by decide) (by decide) (by decide) (fun _ => rfl) (fun r_6 u_6 H locs q_6 hP hD hS => ?_)
    obtain rfl : r_6 = F (i * 5 + 2) := q_6
    refine lv_iadd hx hb dX5_lossOf_49 ?_
    refine e_i (u := ()) hx hb hr hlocks hP hD hS dX5_lossOf_50 ?_ ?_
    · rfl
    · unfold lossF flowF; first | (rw [if_pos (by assumption)]) | (rw [if_neg (by assumption)])
  · refine lv_iload_n hx hb dX5_lossOf_10 rfl (lv_at hl 2 rfl) ?_
    refine lv_iconst (v := 1) hx hb dX5_lossOf_11 (by decide) ?_
    refine lv_iadd hx hb dX5_lossOf_12 ?_
    refine lv_iconst (v := 2) hx hb dX5_lossOf_13 (by decide) ?_
    refine lv_idiv hx hb dX5_lossOf_14 (by decide) ?_
    refine lv_goto (tgt := 19) hx hb dX5_lossOf_15 (by decide) ?_
    refine lv_istore_n (lv' := [(3, .int ((q + 1) / 2)), (0, .ref m0), (1, .int (nI i)), (2, .int q)]) hx hb dX5_lossOf_19 rfl hl (by decide) rfl (fun ls hl => ?_)
    refine lv_aload_n hx hb dX5_lossOf_20 rfl (lv_at hl 1 rfl) ?_
    refine lv_iload_n hx hb dX5_lossOf_21 rfl (lv_at hl 2 rfl) ?_
    refine lv_iconst (v := 0) hx hb dX5_lossOf_22 (by decide) ?_
    refine k_i (va_runV (As := [.int (nI i), .int (nI 0)]) (rest := []) ⟨hx, hb, hml, hown, hts⟩ (c_X5_ofSpan l D cI cB cO H.size m0 g0 g1 g2 g3 g4 g5 g6 g7 g8 ms N ax fa ho la fs n P F G i 0 (by first | assumption | omega | exact okFacts.sort (by assumption) (by omega))) (cwV 2 hts gX5_lossOf_X5_ofSpan rfl rfl rfl (by decide +kernel) ⟨Nat.le_of_ble_eq_true rfl, Nat.le_of_ble_eq_true rfl⟩) (preV_of hK hP hD hS hA hSt [0, 1] (by decide) rfl 0 (ci := 5) rfl rfl) rfl rfl hl.1 rfl (lv_room (Nat.le_of_ble_eq_true rfl)) dX5_lossOf_23 ⟨Nat.le_of_ble_eq_true rfl, Nat.le_of_ble_eq_true rfl⟩) hP hD hS hA [0, 1] [] [0, 1] [] (fun (u_7 : Unit) => [(m0, .inr (5, [.ref g0, .ref g1, .ref g2, .int (nI ms), .ref g3, .ref g4, .int (nI N), .int (nI ax), .ref g5, .ref g6, .int fa, .int ho, .int la, .int fs, .ref g7, .ref g8])), (g0, .inl (cI, 58, .inl (rowL (n, P, F, G))))]) rfl rfl (by decide) (by decide) (by decide) (fun _ => rfl) (fun r_7 u_7 H locs q_7 hP hD hS => ?_)
    obtain rfl : r_7 = F (i * 5 + 0) := q_7
    refine lv_aload_n hx hb dX5_lossOf_26 rfl (lv_at hl 1 rfl) ?_
    refine lv_iload_n hx hb dX5_lossOf_27 rfl (lv_at hl 2 rfl) ?_
    refine lv_iconst (v := 1) hx hb dX5_lossOf_28 (by decide) ?_
    refine k_i (va_runV (As := [.int (nI i), .int (nI 1)]) (rest := [.int (F (i * 5 + 0))]) ⟨hx, hb, hml, hown, hts⟩ (c_X5_ofSpan l D cI cB cO H.size m0 g0 g1 g2 g3 g4 g5 g6 g7 g8 ms N ax fa ho la fs n P F G i 1 (by first | assumption | omega | exact okFacts.sort (by assumption) (by omega))) (cwV 2 hts gX5_lossOf_X5_ofSpan rfl rfl rfl (by decide +kernel) ⟨Nat.le_of_ble_eq_true rfl, Nat.le_of_ble_eq_true rfl⟩) (preV_of hK hP hD hS hA hSt [0, 1] (by decide) rfl 0 (ci := 5) rfl rfl) rfl rfl hl.1 rfl (lv_room (Nat.le_of_ble_eq_true rfl)) dX5_lossOf_29 ⟨Nat.le_of_ble_eq_true rfl, Nat.le_of_ble_eq_true rfl⟩) hP hD hS hA [0, 1] [] [0, 1] [] (fun (u_8 : Unit) => [(m0, .inr (5, [.ref g0, .ref g1, .ref g2, .int (nI ms), .ref g3, .ref g4, .int (nI N), .int (nI ax), .ref g5, .ref g6, .int fa, .int ho, .int la, .int fs, .ref g7, .ref g8])), (g0, .inl (cI, 58, .inl (rowL (n, P, F, G))))]) rfl rfl (by decide) (by decide) (by decide) (fun _ => rfl) (fun r_8 u_8 H locs q_8 hP hD hS => ?_)
    obtain rfl : r_8 = F (i * 5 + 1) := q_8
    refine k_i (va_runS (As := [.int (F (i * 5 + 1))]) (rest := [.int (F (i * 5 + 0))]) ⟨hx, hb, hml, hown, hts⟩ (c_X5_hardOf l D cI cB cO H.size (F (i * 5 + 1)) (by first | assumption | omega | exact okFacts.sort (by assumption) (by omega))) (va_cwS 1 hts gX5_lossOf_X5_hardOf rfl rfl rfl (by decide +kernel) ⟨Nat.le_of_ble_eq_true rfl, Nat.le_of_ble_eq_true rfl⟩) (preS_of hK hP hD hS hA hSt [] (by decide) rfl) rfl rfl hl.1 rfl (lv_room (Nat.le_of_ble_eq_true rfl)) dX5_lossOf_32 ⟨Nat.le_of_ble_eq_true rfl, Nat.le_of_ble_eq_true rfl⟩) hP hD hS hA [] [0, 1] [0, 1] [(m0, .inr (5, [.ref g0, .ref g1, .ref g2, .int (nI ms), .ref g3, .ref g4, .int (nI N), .int (nI ax), .ref g5, .ref g6, .int fa, .int ho, .int la, .int fs, .ref g7, .ref g8])), (g0, .inl (cI, 58, .inl (rowL (n, P, F, G))))] (fun (u_9 : Unit) => [(m0, .inr (5, [.ref g0, .ref g1, .ref g2, .int (nI ms), .ref g3, .ref g4, .int (nI N), .int (nI ax), .ref g5, .ref g6, .int fa, .int ho, .int la, .int fs, .ref g7, .ref g8])), (g0, .inl (cI, 58, .inl (rowL (n, P, F, G))))]) rfl rfl (by decide) (by decide) (by decide) (fun _ => rfl) (fun r_9 u_9 H locs q_9 hP hD hS => ?_)
    obtain rfl : r_9 = kHard (pl (F (i * 5 + 1))) := q_9
    refine lv_imul hx hb dX5_lossOf_35 ?_
    refine lv_iload_n hx hb dX5_lossOf_36 rfl (lv_at hl 0 rfl) ?_
    refine lv_imul hx hb dX5_lossOf_37 ?_
    refine lv_iload_n hx hb dX5_lossOf_38 rfl (lv_at hl 0 rfl) ?_
    refine lv_imul hx hb dX5_lossOf_39 ?_
    refine lv_bipush (v := 100) hx hb dX5_lossOf_40 (by decide) ?_
    refine lv_idiv hx hb dX5_lossOf_42 (by decide) ?_
    refine lv_aload_n hx hb dX5_lossOf_43 rfl (lv_at hl 1 rfl) ?_
    refine lv_iload_n hx hb dX5_lossOf_44 rfl (lv_at hl 2 rfl) ?_
    refine lv_iconst (v := 2) hx hb dX5_lossOf_45 (by decide) ?_
    refine k_i (va_runV (As := [.int (nI i), .int (nI 2)]) (rest := [.int (((((F (i * 5 + 0)) * (kHard (pl (F (i * 5 + 1))))) * ((q + 1) / 2)) * ((q + 1) / 2)) / 100)]) ⟨hx, hb, hml, hown, hts⟩ (c_X5_ofSpan l D cI cB cO H.size m0 g0 g1 g2 g3 g4 g5 g6 g7 g8 ms N ax fa ho la fs n P F G i 2 (by first | assumption | omega | exact okFacts.sort (by assumption) (by omega))) (cwV 2 hts gX5_lossOf_X5_ofSpan rfl rfl rfl (by decide +kernel) ⟨Nat.le_of_ble_eq_true rfl, Nat.le_of_ble_eq_true rfl⟩) (preV_of hK hP hD hS hA hSt [0, 1] (by decide) rfl 0 (ci := 5) rfl rfl) rfl rfl hl.1 rfl (lv_room (Nat.le_of_ble_eq_true rfl)) dX5_lossOf_46 ⟨Nat.le_of_ble_eq_true rfl, Nat.le_of_ble_eq_true rfl⟩) hP hD hS hA [0, 1] [] [0, 1] [] (fun (u_10 : Unit) => [(m0, .inr (5, [.ref g0, .ref g1, .ref g2, .int (nI ms), .ref g3, .ref g4, .int (nI N), .int (nI ax), .ref g5, .ref g6, .int fa, .int ho, .int la, .int fs, .ref g7, .ref g8])), (g0, .inl (cI, 58, .inl (rowL (n, P, F, G))))]) rfl rfl (by decide) (by decide) (by decide) (fun _ => rfl) (fun r_10 u_10 H locs q_10 hP hD hS => ?_)
    obtain rfl : r_10 = F (i * 5 + 2) := q_10
    refine lv_iadd hx hb dX5_lossOf_49 ?_
    refine e_i (u := ()) hx hb hr hlocks hP hD hS dX5_lossOf_50 ?_ ?_
    · rfl
    · unfold lossF flowF; first | (rw [if_pos (by assumption)]) | (rw [if_neg (by assumption)])
theorem in_X5_fail_5 : ∀ w ∈ wsX50, w ∈ wsX5_fail := fun _ h => List.mem_cons_of_mem _ (List.mem_append_right _ h)
set_option maxHeartbeats 4000000 in
set_option maxRecDepth 100000 in
theorem c_X5_fail (l : Launch) (D : va_G) (cI cB cO : ClassId) (sz : Nat) (m0 g0 g1 g2 g3 g4 g5 g6 g7 g8 ms N ax : Nat) (fa ho la fs : Int32) (x y : Int32)  : CV l yX5_fail wsX5_fail ({ frames := 0, cells := 0, slots := 0, locals := 0 } : Room) D (tyL cI cB cO) [.ref m0, .int x, .int y] [(m0, .inr (5, [.ref g0, .ref g1, .ref g2, .int (nI ms), .ref g3, .ref g4, .int (nI N), .int (nI ax), .ref g5, .ref g6, .int fa, .int ho, .int la, .int fs, .ref g7, .ref g8]))] sz (fun (_ : Unit) => True) (fun (u : Unit) => [(m0, .inr (5, [.ref g0, .ref g1, .ref g2, .int (nI ms), .ref g3, .ref g4, .int (nI N), .int (nI ax), .ref g5, .ref g6, .int x, .int y, .int la, .int fs, .ref g7, .ref g8]))]) 0 0 := by
  refine ct_of (cc := cX5_fail) (maxL := 3) (ret := none) (own := RX5) (Qc := QV D (fun (_ : Unit) => True) (fun (u : Unit) => [(m0, .inr (5, [.ref g0, .ref g1, .ref g2, .int (nI ms), .ref g3, .ref g4, .int (nI N), .int (nI ax), .ref g5, .ref g6, .int x, .int y, .int la, .int fs, .ref g7, .ref g8]))])) (by decide) rfl rfl (Nat.le_of_ble_eq_true rfl) ?_
  intro pM eM sM mM below meth cM AM ls H locs hx hb hr hts hown hlocks hml hin hK hP hD hS hA hSt hl
  have hl : lv_has ls 3 [(0, .ref m0), (1, .int x), (2, .int y)] := hl
  refine lv_aload_n hx hb dX5_fail_0 rfl (lv_at hl 0 rfl) ?_
  refine lv_iload_n hx hb dX5_fail_1 rfl (lv_at hl 1 rfl) ?_
  refine va_put (D := D) (ci := 5) (v := .int x) (ty := .int) (C := RX5) (T := TX5) (N := 16) hx hb hts in_X5_fail_5 tyX5 tyX5_ok nmX5 hown hK hP hD hS 0 rfl rfl 10 (by decide) (hts (.fieldLink RX5 58 "HoseSpansModel" "failsAt" "I") (List.mem_of_getElem? (i := 1) (by decide +kernel))) (fun _ h9 => h9) rfl (by decide +kernel) rfl rfl (Nat.le_of_ble_eq_true rfl) dX5_fail_2 (fun H locs hP hD hS => ?_)
  have hP : va_P D vwCl [(m0, .inr (5, [.ref g0, .ref g1, .ref g2, .int (nI ms), .ref g3, .ref g4, .int (nI N), .int (nI ax), .ref g5, .ref g6, .int x, .int ho, .int la, .int fs, .ref g7, .ref g8]))] H := hP
  have hD : va_D AM [(m0, .inr (5, [.ref g0, .ref g1, .ref g2, .int (nI ms), .ref g3, .ref g4, .int (nI N), .int (nI ax), .ref g5, .ref g6, .int x, .int ho, .int la, .int fs, .ref g7, .ref g8]))] := hD
  refine lv_aload_n hx hb dX5_fail_5 rfl (lv_at hl 0 rfl) ?_
  refine lv_iload_n hx hb dX5_fail_6 rfl (lv_at hl 2 rfl) ?_
  refine va_put (D := D) (ci := 5) (v := .int y) (ty := .int) (C := RX5) (T := TX5) (N := 16) hx hb hts in_X5_fail_5 tyX5 tyX5_ok nmX5 hown hK hP hD hS 0 rfl rfl 11 (by decide) (hts (.fieldLink RX5 61 "HoseSpansModel" "how" "I") (List.mem_of_getElem? (i := 2) (by decide +kernel))) (fun _ h9 => h9) rfl (by decide +kernel) rfl rfl (Nat.le_of_ble_eq_true rfl) dX5_fail_7 (fun H locs hP hD hS => ?_)
  have hP : va_P D vwCl [(m0, .inr (5, [.ref g0, .ref g1, .ref g2, .int (nI ms), .ref g3, .ref g4, .int (nI N), .int (nI ax), .ref g5, .ref g6, .int x, .int y, .int la, .int fs, .ref g7, .ref g8]))] H := hP
  have hD : va_D AM [(m0, .inr (5, [.ref g0, .ref g1, .ref g2, .int (nI ms), .ref g3, .ref g4, .int (nI N), .int (nI ax), .ref g5, .ref g6, .int x, .int y, .int la, .int fs, .ref g7, .ref g8]))] := hD
  refine e_v (u := ()) hx hb hr hlocks hP hD hS dX5_fail_10 ?_ ?_
  · rfl
  · trivial
set_option maxHeartbeats 4000000 in
set_option maxRecDepth 100000 in
theorem c_X5_goOver (l : Launch) (D : va_G) (cI cB cO : ClassId) (sz : Nat) (m0 g0 g1 g2 g3 g4 g5 g6 g7 g8 ms N ax : Nat) (fa ho la fs : Int32) (n : Nat) (P : Int32) (F G : Nat → Int32) (i : Nat) (p q : Int32) (hi : i < 10) (hf : okFacts F) : CI l yX5_goOver wsX5_goOver ({ frames := 2, cells := 0, slots := 0, locals := 45 } : Room) D (tyL cI cB cO) [.ref m0, .int (nI i), .int p, .int q] [(m0, .inr (5, [.ref g0, .ref g1, .ref g2, .int (nI ms), .ref g3, .ref g4, .int (nI N), .int (nI ax), .ref g5, .ref g6, .int fa, .int ho, .int la, .int fs, .ref g7, .ref g8])), (g0, .inl (cI, 58, .inl (rowL (n, P, F, G))))] sz (fun (r : Int32) (_ : Unit) => r = goV F i p q) (fun (u : Unit) => [(m0, .inr (5, [.ref g0, .ref g1, .ref g2, .int (nI ms), .ref g3, .ref g4, .int (nI N), .int (nI ax), .ref g5, .ref g6, .int (onF (failF F i p q) fa (nI i)), .int (onF (failF F i p q) ho (failF F i p q)), .int la, .int fs, .ref g7, .ref g8])), (g0, .inl (cI, 58, .inl (rowL (n, P, F, G))))]) 0 0 := by
  refine ct_of (cc := cX5_goOver) (maxL := 5) (ret := some .int) (own := RX5) (Qc := QI D (fun (r : Int32) (_ : Unit) => r = goV F i p q) (fun (u : Unit) => [(m0, .inr (5, [.ref g0, .ref g1, .ref g2, .int (nI ms), .ref g3, .ref g4, .int (nI N), .int (nI ax), .ref g5, .ref g6, .int (onF (failF F i p q) fa (nI i)), .int (onF (failF F i p q) ho (failF F i p q)), .int la, .int fs, .ref g7, .ref g8])), (g0, .inl (cI, 58, .inl (rowL (n, P, F, G))))])) (by decide) rfl rfl (Nat.le_of_ble_eq_true rfl) ?_
  intro pM eM sM mM below meth cM AM ls H locs hx hb hr hts hown hlocks hml hin hK hP hD hS hA hSt hl
  have hl : lv_has ls 5 [(0, .ref m0), (1, .int (nI i)), (2, .int p), (3, .int q)] := hl
  refine lv_aload_n hx hb dX5_goOver_0 rfl (lv_at hl 0 rfl) ?_
  refine lv_iload_n hx hb dX5_goOver_1 rfl (lv_at hl 1 rfl) ?_
  refine lv_iconst (v := 4) hx hb dX5_goOver_2 (by decide) ?_
  refine k_i (va_runV (As := [.int (nI i), .int (nI 4)]) (rest := []) ⟨hx, hb, hml, hown, hts⟩ (c_X5_ofSpan l D cI cB cO H.size m0 g0 g1 g2 g3 g4 g5 g6 g7 g8 ms N ax fa ho la fs n P F G i 4 (by first | assumption | omega | exact okFacts.sort (by assumption) (by omega))) (cwV 2 hts gX5_goOver_X5_ofSpan rfl rfl rfl (by decide +kernel) ⟨Nat.le_of_ble_eq_true rfl, Nat.le_of_ble_eq_true rfl⟩) (preV_of hK hP hD hS hA hSt [0, 1] (by decide) rfl 0 (ci := 5) rfl rfl) rfl rfl hl.1 rfl (lv_room (Nat.le_of_ble_eq_true rfl)) dX5_goOver_3 ⟨Nat.le_of_ble_eq_true rfl, Nat.le_of_ble_eq_true rfl⟩) hP hD hS hA [0, 1] [] [0, 1] [] (fun (u_1 : Unit) => [(m0, .inr (5, [.ref g0, .ref g1, .ref g2, .int (nI ms), .ref g3, .ref g4, .int (nI N), .int (nI ax), .ref g5, .ref g6, .int fa, .int ho, .int la, .int fs, .ref g7, .ref g8])), (g0, .inl (cI, 58, .inl (rowL (n, P, F, G))))]) rfl rfl (by decide) (by decide) (by decide) (fun _ => rfl) (fun r_1 u_1 H locs q_1 hP hD hS => ?_)
  obtain rfl : r_1 = F (i * 5 + 4) := q_1
  refine lv_iconst (v := 1) hx hb dX5_goOver_6 (by decide) ?_
  refine lv_icmp_ne (tgt := 18) hx hb dX5_goOver_7 (by decide) (fun c_2 => ?_) (fun c_2 => ?_)
  · refine lv_iload_n hx hb dX5_goOver_18 rfl (lv_at hl 2 rfl) ?_
    refine lv_aload_n hx hb dX5_goOver_19 rfl (lv_at hl 0 rfl) ?_
    refine lv_iload_n hx hb dX5_goOver_20 rfl (lv_at hl 1 rfl) ?_
    refine lv_iconst (v := 1) hx hb dX5_goOver_21 (by decide) ?_
    refine k_i (va_runV (As := [.int (nI i), .int (nI 1)]) (rest := [.int p]) ⟨hx, hb, hml, hown, hts⟩ (c_X5_ofSpan l D cI cB cO H.size m0 g0 g1 g2 g3 g4 g5 g6 g7 g8 ms N ax fa ho la fs n P F G i 1 (by first | assumption | omega | exact okFacts.sort (by assumption) (by omega))) (cwV 2 hts gX5_goOver_X5_ofSpan rfl rfl rfl (by decide +kernel) ⟨Nat.le_of_ble_eq_true rfl, Nat.le_of_ble_eq_true rfl⟩) (preV_of hK hP hD hS hA hSt [0, 1] (by decide) rfl 0 (ci := 5) rfl rfl) rfl rfl hl.1 rfl (lv_room (Nat.le_of_ble_eq_true rfl)) dX5_goOver_22 ⟨Nat.le_of_ble_eq_true rfl, Nat.le_of_ble_eq_true rfl⟩) hP hD hS hA [0, 1] [] [0, 1] [] (fun (u_3 : Unit) => [(m0, .inr (5, [.ref g0, .ref g1, .ref g2, .int (nI ms), .ref g3, .ref g4, .int (nI N), .int (nI ax), .ref g5, .ref g6, .int fa, .int ho, .int la, .int fs, .ref g7, .ref g8])), (g0, .inl (cI, 58, .inl (rowL (n, P, F, G))))]) rfl rfl (by decide) (by decide) (by decide) (fun _ => rfl) (fun r_3 u_3 H locs q_3 hP hD hS => ?_)
    obtain rfl : r_3 = F (i * 5 + 1) := q_3
    refine k_i (va_runS (As := [.int (F (i * 5 + 1))]) (rest := [.int p]) ⟨hx, hb, hml, hown, hts⟩ (c_X5_standsOf l D cI cB cO H.size (F (i * 5 + 1)) (by first | assumption | omega | exact okFacts.sort (by assumption) (by omega))) (va_cwS 1 hts gX5_goOver_X5_standsOf rfl rfl rfl (by decide +kernel) ⟨Nat.le_of_ble_eq_true rfl, Nat.le_of_ble_eq_true rfl⟩) (preS_of hK hP hD hS hA hSt [] (by decide) rfl) rfl rfl hl.1 rfl (lv_room (Nat.le_of_ble_eq_true rfl)) dX5_goOver_25 ⟨Nat.le_of_ble_eq_true rfl, Nat.le_of_ble_eq_true rfl⟩) hP hD hS hA [] [0, 1] [0, 1] [(m0, .inr (5, [.ref g0, .ref g1, .ref g2, .int (nI ms), .ref g3, .ref g4, .int (nI N), .int (nI ax), .ref g5, .ref g6, .int fa, .int ho, .int la, .int fs, .ref g7, .ref g8])), (g0, .inl (cI, 58, .inl (rowL (n, P, F, G))))] (fun (u_4 : Unit) => [(m0, .inr (5, [.ref g0, .ref g1, .ref g2, .int (nI ms), .ref g3, .ref g4, .int (nI N), .int (nI ax), .ref g5, .ref g6, .int fa, .int ho, .int la, .int fs, .ref g7, .ref g8])), (g0, .inl (cI, 58, .inl (rowL (n, P, F, G))))]) rfl rfl (by decide) (by decide) (by decide) (fun _ => rfl) (fun r_4 u_4 H locs q_4 hP hD hS => ?_)
    obtain rfl : r_4 = kStands (pl (F (i * 5 + 1))) := q_4
    refine lv_icmp_le (tgt := 39) hx hb dX5_goOver_28 (by decide) (fun c_5 => ?_) (fun c_5 => ?_)
    · have c_5 := Int32.not_lt.mpr c_5
      refine lv_iload_n hx hb dX5_goOver_39 rfl (lv_at hl 2 rfl) ?_
      refine lv_aload_n hx hb dX5_goOver_40 rfl (lv_at hl 0 rfl) ?_
      refine lv_iload_n hx hb dX5_goOver_41 rfl (lv_at hl 1 rfl) ?_
      refine lv_iload_n hx hb dX5_goOver_42 rfl (lv_at hl 3 rfl) ?_
      refine k_i (va_runV (As := [.int (nI i), .int q]) (rest := [.int p]) ⟨hx, hb, hml, hown, hts⟩ (c_X5_lossOf l D cI cB cO H.size m0 g0 g1 g2 g3 g4 g5 g6 g7 g8 ms N ax fa ho la fs n P F G i q (by first | assumption | omega | exact okFacts.sort (by assumption) (by omega)) (by first | assumption | omega | exact okFacts.sort (by assumption) (by omega))) (cwV 2 hts gX5_goOver_X5_lossOf rfl rfl rfl (by decide +kernel) ⟨Nat.le_of_ble_eq_true rfl, Nat.le_of_ble_eq_true rfl⟩) (preV_of hK hP hD hS hA hSt [0, 1] (by decide) rfl 0 (ci := 5) rfl rfl) rfl rfl hl.1 rfl (lv_room (Nat.le_of_ble_eq_true rfl)) dX5_goOver_43 ⟨Nat.le_of_ble_eq_true rfl, Nat.le_of_ble_eq_true rfl⟩) hP hD hS hA [0, 1] [] [0, 1] [] (fun (u_6 : Unit) => [(m0, .inr (5, [.ref g0, .ref g1, .ref g2, .int (nI ms), .ref g3, .ref g4, .int (nI N), .int (nI ax), .ref g5, .ref g6, .int fa, .int ho, .int la, .int fs, .ref g7, .ref g8])), (g0, .inl (cI, 58, .inl (rowL (n, P, F, G))))]) rfl rfl (by decide) (by decide) (by decide) (fun _ => rfl) (fun r_6 u_6 H locs q_6 hP hD hS => ?_)
      obtain rfl : r_6 = lossF F i q := q_6
      refine lv_isub hx hb dX5_goOver_46 ?_
      refine lv_istore (lv' := [(4, .int (p - (lossF F i q))), (0, .ref m0), (1, .int (nI i)), (2, .int p), (3, .int q)]) hx hb dX5_goOver_47 hl (by decide) rfl (fun ls hl => ?_)
      refine lv_iload hx hb dX5_goOver_49 (lv_at hl 0 rfl) ?_
      refine lv_if_ge (tgt := 60) hx hb dX5_goOver_51 (by decide) (fun c_7 => ?_) (fun c_7 => ?_)
      · have c_7 := Int32.not_lt.mpr c_7
        have hk := fail_0 (q := q) (p := p) (by assumption) (by assumption) (by assumption)
        rw [show (.int fa : Value) = .int (onF (failF F i p q) fa (nI i)) from congrArg Value.int (onF_0 hk)] at hP hD
        have hP : va_P D vwCl [(m0, .inr (5, [.ref g0, .ref g1, .ref g2, .int (nI ms), .ref g3, .ref g4, .int (nI N), .int (nI ax), .ref g5, .ref g6, .int (onF (failF F i p q) fa (nI i)), .int ho, .int la, .int fs, .ref g7, .ref g8])), (g0, .inl (cI, 58, .inl (rowL (n, P, F, G))))] H := hP
        have hD : va_D AM [(m0, .inr (5, [.ref g0, .ref g1, .ref g2, .int (nI ms), .ref g3, .ref g4, .int (nI N), .int (nI ax), .ref g5, .ref g6, .int (onF (failF F i p q) fa (nI i)), .int ho, .int la, .int fs, .ref g7, .ref g8])), (g0, .inl (cI, 58, .inl (rowL (n, P, F, G))))] := hD
        rw [show (.int ho : Value) = .int (onF (failF F i p q) ho (failF F i p q)) from congrArg Value.int (onF_0 hk)] at hP hD
        have hP : va_P D vwCl [(m0, .inr (5, [.ref g0, .ref g1, .ref g2, .int (nI ms), .ref g3, .ref g4, .int (nI N), .int (nI ax), .ref g5, .ref g6, .int (onF (failF F i p q) fa (nI i)), .int (onF (failF F i p q) ho (failF F i p q)), .int la, .int fs, .ref g7, .ref g8])), (g0, .inl (cI, 58, .inl (rowL (n, P, F, G))))] H := hP
        have hD : va_D AM [(m0, .inr (5, [.ref g0, .ref g1, .ref g2, .int (nI ms), .ref g3, .ref g4, .int (nI N), .int (nI ax), .ref g5, .ref g6, .int (onF (failF F i p q) fa (nI i)), .int (onF (failF F i p q) ho (failF F i p q)), .int la, .int fs, .ref g7, .ref g8])), (g0, .inl (cI, 58, .inl (rowL (n, P, F, G))))] := hD
        refine lv_iload hx hb dX5_goOver_60 (lv_at hl 0 rfl) ?_
        refine e_i (u := ()) hx hb hr hlocks hP hD hS dX5_goOver_62 ?_ ?_
        · rfl
        · first | exact goV_3 hk | exact goV_0 hk
      · have c_7 := Int32.not_le.mp c_7
        refine lv_aload_n hx hb dX5_goOver_54 rfl (lv_at hl 1 rfl) ?_
        refine lv_iload_n hx hb dX5_goOver_55 rfl (lv_at hl 2 rfl) ?_
        refine lv_iconst (v := 3) hx hb dX5_goOver_56 (by decide) ?_
        refine k_v (va_runV (As := [.int (nI i), .int 3]) (rest := []) ⟨hx, hb, hml, hown, hts⟩ (c_X5_fail l D cI cB cO H.size m0 g0 g1 g2 g3 g4 g5 g6 g7 g8 ms N ax fa ho la fs (nI i) 3 ) (cwV 2 hts gX5_goOver_X5_fail rfl rfl rfl (by decide +kernel) ⟨Nat.le_of_ble_eq_true rfl, Nat.le_of_ble_eq_true rfl⟩) (preV_of hK hP hD hS hA hSt [0] (by decide) rfl 0 (ci := 5) rfl rfl) rfl rfl hl.1 rfl (lv_room (Nat.le_of_ble_eq_true rfl)) dX5_goOver_57 ⟨Nat.le_of_ble_eq_true rfl, Nat.le_of_ble_eq_true rfl⟩) hP hD hS hA [0] [1] [1, 0] [(g0, .inl (cI, 58, .inl (rowL (n, P, F, G))))] (fun (u_8 : Unit) => [(m0, .inr (5, [.ref g0, .ref g1, .ref g2, .int (nI ms), .ref g3, .ref g4, .int (nI N), .int (nI ax), .ref g5, .ref g6, .int (nI i), .int 3, .int la, .int fs, .ref g7, .ref g8])), (g0, .inl (cI, 58, .inl (rowL (n, P, F, G))))]) rfl rfl (by decide) (by decide) (by decide) (fun _ => rfl) (fun u_8 H locs q_8 hP hD hS => ?_)
        have hk := fail_3 (q := q) (p := p) (by assumption) (by assumption) (by assumption)
        rw [show (.int (nI i) : Value) = .int (onF (failF F i p q) fa (nI i)) from congrArg Value.int (onF_n (by rw [hk]; decide))] at hP hD
        have hP : va_P D vwCl [(m0, .inr (5, [.ref g0, .ref g1, .ref g2, .int (nI ms), .ref g3, .ref g4, .int (nI N), .int (nI ax), .ref g5, .ref g6, .int (onF (failF F i p q) fa (nI i)), .int 3, .int la, .int fs, .ref g7, .ref g8])), (g0, .inl (cI, 58, .inl (rowL (n, P, F, G))))] H := hP
        have hD : va_D AM [(m0, .inr (5, [.ref g0, .ref g1, .ref g2, .int (nI ms), .ref g3, .ref g4, .int (nI N), .int (nI ax), .ref g5, .ref g6, .int (onF (failF F i p q) fa (nI i)), .int 3, .int la, .int fs, .ref g7, .ref g8])), (g0, .inl (cI, 58, .inl (rowL (n, P, F, G))))] := hD
        rw [show (.int 3 : Value) = .int (onF (failF F i p q) ho (failF F i p q)) from congrArg Value.int (onF_k hk (by decide))] at hP hD
        have hP : va_P D vwCl [(m0, .inr (5, [.ref g0, .ref g1, .ref g2, .int (nI ms), .ref g3, .ref g4, .int (nI N), .int (nI ax), .ref g5, .ref g6, .int (onF (failF F i p q) fa (nI i)), .int (onF (failF F i p q) ho (failF F i p q)), .int la, .int fs, .ref g7, .ref g8])), (g0, .inl (cI, 58, .inl (rowL (n, P, F, G))))] H := hP
        have hD : va_D AM [(m0, .inr (5, [.ref g0, .ref g1, .ref g2, .int (nI ms), .ref g3, .ref g4, .int (nI N), .int (nI ax), .ref g5, .ref g6, .int (onF (failF F i p q) fa (nI i)), .int (onF (failF F i p q) ho (failF F i p q)), .int la, .int fs, .ref g7, .ref g8])), (g0, .inl (cI, 58, .inl (rowL (n, P, F, G))))] := hD
        refine lv_iload hx hb dX5_goOver_60 (lv_at hl 0 rfl) ?_
        refine e_i (u := ()) hx hb hr hlocks hP hD hS dX5_goOver_62 ?_ ?_
        · rfl
        · first | exact goV_3 hk | exact goV_0 hk
    · have c_5 := Int32.not_le.mp c_5
      refine lv_aload_n hx hb dX5_goOver_31 rfl (lv_at hl 0 rfl) ?_
      refine lv_iload_n hx hb dX5_goOver_32 rfl (lv_at hl 1 rfl) ?_
      refine lv_iconst (v := 4) hx hb dX5_goOver_33 (by decide) ?_
      refine k_v (va_runV (As := [.int (nI i), .int 4]) (rest := []) ⟨hx, hb, hml, hown, hts⟩ (c_X5_fail l D cI cB cO H.size m0 g0 g1 g2 g3 g4 g5 g6 g7 g8 ms N ax fa ho la fs (nI i) 4 ) (cwV 2 hts gX5_goOver_X5_fail rfl rfl rfl (by decide +kernel) ⟨Nat.le_of_ble_eq_true rfl, Nat.le_of_ble_eq_true rfl⟩) (preV_of hK hP hD hS hA hSt [0] (by decide) rfl 0 (ci := 5) rfl rfl) rfl rfl hl.1 rfl (lv_room (Nat.le_of_ble_eq_true rfl)) dX5_goOver_34 ⟨Nat.le_of_ble_eq_true rfl, Nat.le_of_ble_eq_true rfl⟩) hP hD hS hA [0] [1] [1, 0] [(g0, .inl (cI, 58, .inl (rowL (n, P, F, G))))] (fun (u_9 : Unit) => [(m0, .inr (5, [.ref g0, .ref g1, .ref g2, .int (nI ms), .ref g3, .ref g4, .int (nI N), .int (nI ax), .ref g5, .ref g6, .int (nI i), .int 4, .int la, .int fs, .ref g7, .ref g8])), (g0, .inl (cI, 58, .inl (rowL (n, P, F, G))))]) rfl rfl (by decide) (by decide) (by decide) (fun _ => rfl) (fun u_9 H locs q_9 hP hD hS => ?_)
      have hk := fail_4 (q := q) (p := p) (by assumption) (by assumption)
      rw [show (.int (nI i) : Value) = .int (onF (failF F i p q) fa (nI i)) from congrArg Value.int (onF_n (by rw [hk]; decide))] at hP hD
      have hP : va_P D vwCl [(m0, .inr (5, [.ref g0, .ref g1, .ref g2, .int (nI ms), .ref g3, .ref g4, .int (nI N), .int (nI ax), .ref g5, .ref g6, .int (onF (failF F i p q) fa (nI i)), .int 4, .int la, .int fs, .ref g7, .ref g8])), (g0, .inl (cI, 58, .inl (rowL (n, P, F, G))))] H := hP
      have hD : va_D AM [(m0, .inr (5, [.ref g0, .ref g1, .ref g2, .int (nI ms), .ref g3, .ref g4, .int (nI N), .int (nI ax), .ref g5, .ref g6, .int (onF (failF F i p q) fa (nI i)), .int 4, .int la, .int fs, .ref g7, .ref g8])), (g0, .inl (cI, 58, .inl (rowL (n, P, F, G))))] := hD
      rw [show (.int 4 : Value) = .int (onF (failF F i p q) ho (failF F i p q)) from congrArg Value.int (onF_k hk (by decide))] at hP hD
      have hP : va_P D vwCl [(m0, .inr (5, [.ref g0, .ref g1, .ref g2, .int (nI ms), .ref g3, .ref g4, .int (nI N), .int (nI ax), .ref g5, .ref g6, .int (onF (failF F i p q) fa (nI i)), .int (onF (failF F i p q) ho (failF F i p q)), .int la, .int fs, .ref g7, .ref g8])), (g0, .inl (cI, 58, .inl (rowL (n, P, F, G))))] H := hP
      have hD : va_D AM [(m0, .inr (5, [.ref g0, .ref g1, .ref g2, .int (nI ms), .ref g3, .ref g4, .int (nI N), .int (nI ax), .ref g5, .ref g6, .int (onF (failF F i p q) fa (nI i)), .int (onF (failF F i p q) ho (failF F i p q)), .int la, .int fs, .ref g7, .ref g8])), (g0, .inl (cI, 58, .inl (rowL (n, P, F, G))))] := hD
      refine lv_iload_n hx hb dX5_goOver_37 rfl (lv_at hl 2 rfl) ?_
      refine e_i (u := ()) hx hb hr hlocks hP hD hS dX5_goOver_38 ?_ ?_
      · rfl
      · exact goV_4 hk
  · refine lv_aload_n hx hb dX5_goOver_10 rfl (lv_at hl 0 rfl) ?_
    refine lv_iload_n hx hb dX5_goOver_11 rfl (lv_at hl 1 rfl) ?_
    refine lv_iconst (v := 1) hx hb dX5_goOver_12 (by decide) ?_
    refine k_v (va_runV (As := [.int (nI i), .int 1]) (rest := []) ⟨hx, hb, hml, hown, hts⟩ (c_X5_fail l D cI cB cO H.size m0 g0 g1 g2 g3 g4 g5 g6 g7 g8 ms N ax fa ho la fs (nI i) 1 ) (cwV 2 hts gX5_goOver_X5_fail rfl rfl rfl (by decide +kernel) ⟨Nat.le_of_ble_eq_true rfl, Nat.le_of_ble_eq_true rfl⟩) (preV_of hK hP hD hS hA hSt [0] (by decide) rfl 0 (ci := 5) rfl rfl) rfl rfl hl.1 rfl (lv_room (Nat.le_of_ble_eq_true rfl)) dX5_goOver_13 ⟨Nat.le_of_ble_eq_true rfl, Nat.le_of_ble_eq_true rfl⟩) hP hD hS hA [0] [1] [1, 0] [(g0, .inl (cI, 58, .inl (rowL (n, P, F, G))))] (fun (u_10 : Unit) => [(m0, .inr (5, [.ref g0, .ref g1, .ref g2, .int (nI ms), .ref g3, .ref g4, .int (nI N), .int (nI ax), .ref g5, .ref g6, .int (nI i), .int 1, .int la, .int fs, .ref g7, .ref g8])), (g0, .inl (cI, 58, .inl (rowL (n, P, F, G))))]) rfl rfl (by decide) (by decide) (by decide) (fun _ => rfl) (fun u_10 H locs q_10 hP hD hS => ?_)
    have hk := fail_1 (q := q) (p := p) (by assumption)
    rw [show (.int (nI i) : Value) = .int (onF (failF F i p q) fa (nI i)) from congrArg Value.int (onF_n (by rw [hk]; decide))] at hP hD
    have hP : va_P D vwCl [(m0, .inr (5, [.ref g0, .ref g1, .ref g2, .int (nI ms), .ref g3, .ref g4, .int (nI N), .int (nI ax), .ref g5, .ref g6, .int (onF (failF F i p q) fa (nI i)), .int 1, .int la, .int fs, .ref g7, .ref g8])), (g0, .inl (cI, 58, .inl (rowL (n, P, F, G))))] H := hP
    have hD : va_D AM [(m0, .inr (5, [.ref g0, .ref g1, .ref g2, .int (nI ms), .ref g3, .ref g4, .int (nI N), .int (nI ax), .ref g5, .ref g6, .int (onF (failF F i p q) fa (nI i)), .int 1, .int la, .int fs, .ref g7, .ref g8])), (g0, .inl (cI, 58, .inl (rowL (n, P, F, G))))] := hD
    rw [show (.int 1 : Value) = .int (onF (failF F i p q) ho (failF F i p q)) from congrArg Value.int (onF_k hk (by decide))] at hP hD
    have hP : va_P D vwCl [(m0, .inr (5, [.ref g0, .ref g1, .ref g2, .int (nI ms), .ref g3, .ref g4, .int (nI N), .int (nI ax), .ref g5, .ref g6, .int (onF (failF F i p q) fa (nI i)), .int (onF (failF F i p q) ho (failF F i p q)), .int la, .int fs, .ref g7, .ref g8])), (g0, .inl (cI, 58, .inl (rowL (n, P, F, G))))] H := hP
    have hD : va_D AM [(m0, .inr (5, [.ref g0, .ref g1, .ref g2, .int (nI ms), .ref g3, .ref g4, .int (nI N), .int (nI ax), .ref g5, .ref g6, .int (onF (failF F i p q) fa (nI i)), .int (onF (failF F i p q) ho (failF F i p q)), .int la, .int fs, .ref g7, .ref g8])), (g0, .inl (cI, 58, .inl (rowL (n, P, F, G))))] := hD
    refine lv_iload_n hx hb dX5_goOver_16 rfl (lv_at hl 2 rfl) ?_
    refine e_i (u := ()) hx hb hr hlocks hP hD hS dX5_goOver_17 ?_ ?_
    · rfl
    · exact goV_1 hk
