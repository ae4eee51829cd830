theorem in_L_law_4 : ∀ w ∈ wsX40, w ∈ wsL_law := fun _ h => List.mem_append_left _ (List.mem_append_left _ (List.mem_append_left _ (List.mem_append_left _ (List.mem_append_left _ (List.mem_append_left _ (List.mem_append_right _ h))))))
theorem in_L_law_5 : ∀ w ∈ wsX50, w ∈ wsL_law := fun _ h => List.mem_append_left _ (List.mem_append_left _ (List.mem_append_left _ (List.mem_append_left _ (List.mem_append_left _ (List.mem_append_right _ h)))))
theorem in_L_law_0 : ∀ w ∈ wsX00, w ∈ wsL_law := fun _ h => List.mem_append_left _ (List.mem_append_left _ (List.mem_append_left _ (List.mem_append_left _ (List.mem_append_right _ h))))
theorem in_L_law_3 : ∀ w ∈ wsX30, w ∈ wsL_law := fun _ h => List.mem_append_left _ (List.mem_append_left _ (List.mem_append_left _ (List.mem_append_right _ h)))
theorem in_L_law_2 : ∀ w ∈ wsX20, w ∈ wsL_law := fun _ h => List.mem_append_left _ (List.mem_append_left _ (List.mem_append_right _ h))
theorem in_L_law_1 : ∀ w ∈ wsX10, w ∈ wsL_law := fun _ h => List.mem_append_left _ (List.mem_append_right _ h)
theorem head_small : ∀ a, a < 6 → ∀ i, i < 6 → nI a - 6 < nI i := by decide +kernel
theorem head_go {LX i : Nat} (h : LX ≤ 3072) (hi : i ≤ LX) (c : ¬ nI LX - 6 < nI i) : i + 6 ≤ LX := by
  rcases Nat.lt_or_ge LX 6 with q | q
  · exact absurd (head_small LX q i (by omega)) c
  · rw [show nI LX - 6 = nI (LX - 6) from pk_sub (a := LX) (b := 6) q] at c
    have := mt (nI_ltI (a := LX - 6) (b := i) (by omega) (by omega)).mpr c
    omega
theorem and_31 (y : Int32) : ∃ k, k < 32 ∧ y &&& 31 = nI k := by
  obtain ⟨q, -, rfl⟩ : ∃ q, q < 2 ^ 32 ∧ y = nI q := ⟨y.toBitVec.toNat, y.toBitVec.isLt, by
    apply Int32.toBitVec_inj.mp
    show y.toBitVec = BitVec.ofNat 32 y.toBitVec.toNat
    simp⟩
  exact ⟨q &&& 31, Nat.lt_of_le_of_lt Nat.and_le_right (by decide), fa_and q 31⟩
set_option maxHeartbeats 4000000 in
set_option maxRecDepth 100000 in
theorem law_loop {pM : Program} {l : Launch} {eM : Env} {sM : State} {mM : MethodId} {below : List Frame} {meth : Method} {cM : Code} {D : va_G} {cI cB cO : ClassId} {AM : Nat → Prop} {bX LX : Nat} {xs : Nat → Int32} (C : lawC pM sM mM cM D cI cB cO AM bX LX xs) (hr : meth.sig.returnType = ret) (hlocks : meth.locks = false) (hAs : ∀ q, AM q → sM.heap.size ≤ q) {A : LA} : ∀ (f i : Nat) (σ : LSt), lawI σ → i ≤ LX → LX - i < f → lawG pM l eM sM mM below meth cM D cI cB cO AM bX (lw_Z below #[Value.ref bX] sM) A 18 i σ := by
  intro f
  induction f with
  | zero =>
    intro i σ _ _ h
    exact absurd h (Nat.not_lt_zero _)
  | succ f ih =>
    intro i σ hI hi hf H locs hP hD hS ls hl
    obtain ⟨hx, hb, hml, hown, hts, hX, hbl, hbA, hA, hK, hSt, hLX⟩ := id C
    refine lv_iload_n hx hb dL_law_18 rfl (lv_at hl 3 rfl) ?_
    refine lv_aload_n hx hb dL_law_19 rfl (lv_at hl 0 rfl) ?_
    refine va_slen hx hb hX hbl hbA hS dL_law_20 ?_
    refine lv_bipush (v := 6) hx hb dL_law_21 (by decide) ?_
    refine lv_isub hx hb dL_law_23 ?_
    refine lv_icmp_gt (tgt := 739) hx hb dL_law_24 (by decide) (fun c1 => ?_) (fun c1 => ?_)
    · refine lv_iconst (v := 1) hx hb dL_law_739 (by decide) ?_
      refine va_forget (fun q hq => hAs _ (hS.2.2 q hq)) ?_
      refine W.widen (k := 600000) (n := 7302249) (by decide) (by decide) ?_
      exact lw_ret hx hb hr hlocks dL_law_740
    · have hi6 : i + 6 ≤ LX := head_go hLX hi c1
      have kk : ∀ τ : LSt, lawI τ → lawG pM l eM sM mM below meth cM D cI cB cO AM bX (lw_Z below #[Value.ref bX] sM) A 733 i τ := by
        intro τ hτ H locs hP hD hS ls hl
        refine lv_iinc (v := nI (i + 6)) (lv' := [(3, .int (nI (i + 6))), (0, .ref bX), (1, _), (2, _)]) hx hb dL_law_733 hl (k := 3) rfl (nI_add i 6) (by decide) rfl (fun ls hl => ?_)
        refine lv_goto (tgt := 18) hx hb dL_law_736 (by decide) ?_
        exact ih (i + 6) τ hτ (by omega) (by omega) H locs hP hD hS ls (lv_sub hl [1, 2, 3, 0] rfl)
      refine lv_aload_n hx hb dL_law_27 rfl (lv_at hl 0 rfl) ?_
      refine lv_iload_n hx hb dL_law_28 rfl (lv_at hl 3 rfl) ?_
      refine va_sld hx hb hX hbl hbA hS (i := nI i) (vp_in_nI (by omega) (by omega)) dL_law_29 ?_
      refine lv_bipush (v := 31) hx hb dL_law_30 (by decide) ?_
      refine lv_iand hx hb dL_law_32 ?_
      obtain ⟨k, hk, ek⟩ := and_31 (xs (Int32.toNatClampNeg (nI i)))
      refine e_n (y := nI k) ek ?_
      by_cases h22 : k < 22
      · rcases (show k = 0 ∨ k = 1 ∨ k = 2 ∨ k = 3 ∨ k = 4 ∨ k = 5 ∨ k = 6 ∨ k = 7 ∨ k = 8 ∨ k = 9 ∨ k = 10 ∨ k = 11 ∨ k = 12 ∨ k = 13 ∨ k = 14 ∨ k = 15 ∨ k = 16 ∨ k = 17 ∨ k = 18 ∨ k = 19 ∨ k = 20 ∨ k = 21 by omega) with rfl | rfl | rfl | rfl | rfl | rfl | rfl | rfl | rfl | rfl | rfl | rfl | rfl | rfl | rfl | rfl | rfl | rfl | rfl | rfl | rfl | rfl
        · refine lv_tableIn (off := 103) (tgt := 136) hx hb dL_law_33 (by decide) (by decide) (by decide) (by decide) ?_
          exact L_c0 C hI hi6 kk H locs hP hD hS ls hl
        · refine lv_tableIn (off := 156) (tgt := 189) hx hb dL_law_33 (by decide) (by decide) (by decide) (by decide) ?_
          exact L_c1 C hI hi6 kk H locs hP hD hS ls hl
        · refine lv_tableIn (off := 169) (tgt := 202) hx hb dL_law_33 (by decide) (by decide) (by decide) (by decide) ?_
          exact L_c2 C hI hi6 kk H locs hP hD hS ls hl
        · refine lv_tableIn (off := 202) (tgt := 235) hx hb dL_law_33 (by decide) (by decide) (by decide) (by decide) ?_
          exact L_c3 C hI hi6 kk H locs hP hD hS ls hl
        · refine lv_tableIn (off := 225) (tgt := 258) hx hb dL_law_33 (by decide) (by decide) (by decide) (by decide) ?_
          exact L_c4 C hI hi6 kk H locs hP hD hS ls hl
        · refine lv_tableIn (off := 248) (tgt := 281) hx hb dL_law_33 (by decide) (by decide) (by decide) (by decide) ?_
          exact L_c5 C hI hi6 kk H locs hP hD hS ls hl
        · refine lv_tableIn (off := 271) (tgt := 304) hx hb dL_law_33 (by decide) (by decide) (by decide) (by decide) ?_
          exact L_c6 C hI hi6 kk H locs hP hD hS ls hl
        · refine lv_tableIn (off := 284) (tgt := 317) hx hb dL_law_33 (by decide) (by decide) (by decide) (by decide) ?_
          exact L_c7 C hI hi6 kk H locs hP hD hS ls hl
        · refine lv_tableIn (off := 317) (tgt := 350) hx hb dL_law_33 (by decide) (by decide) (by decide) (by decide) ?_
          exact L_c8 C hI hi6 kk H locs hP hD hS ls hl
        · refine lv_tableIn (off := 350) (tgt := 383) hx hb dL_law_33 (by decide) (by decide) (by decide) (by decide) ?_
          exact L_c9 C hI hi6 kk H locs hP hD hS ls hl
        · refine lv_tableIn (off := 383) (tgt := 416) hx hb dL_law_33 (by decide) (by decide) (by decide) (by decide) ?_
          exact L_c10 C hI hi6 kk H locs hP hD hS ls hl
        · refine lv_tableIn (off := 406) (tgt := 439) hx hb dL_law_33 (by decide) (by decide) (by decide) (by decide) ?_
          exact L_c11 C hI hi6 kk H locs hP hD hS ls hl
        · refine lv_tableIn (off := 439) (tgt := 472) hx hb dL_law_33 (by decide) (by decide) (by decide) (by decide) ?_
          exact L_c12 C hI hi6 kk H locs hP hD hS ls hl
        · refine lv_tableIn (off := 452) (tgt := 485) hx hb dL_law_33 (by decide) (by decide) (by decide) (by decide) ?_
          exact L_c13 C hI hi6 kk H locs hP hD hS ls hl
        · refine lv_tableIn (off := 475) (tgt := 508) hx hb dL_law_33 (by decide) (by decide) (by decide) (by decide) ?_
          exact L_c14 C hI hi6 kk H locs hP hD hS ls hl
        · refine lv_tableIn (off := 538) (tgt := 571) hx hb dL_law_33 (by decide) (by decide) (by decide) (by decide) ?_
          exact L_c15 C hI hi6 kk H locs hP hD hS ls hl
        · refine lv_tableIn (off := 601) (tgt := 634) hx hb dL_law_33 (by decide) (by decide) (by decide) (by decide) ?_
          exact L_c16 C hI hi6 kk H locs hP hD hS ls hl
        · refine lv_tableIn (off := 624) (tgt := 657) hx hb dL_law_33 (by decide) (by decide) (by decide) (by decide) ?_
          exact L_c17 C hI hi6 kk H locs hP hD hS ls hl
        · refine lv_tableIn (off := 637) (tgt := 670) hx hb dL_law_33 (by decide) (by decide) (by decide) (by decide) ?_
          exact L_c18 C hI hi6 kk H locs hP hD hS ls hl
        · refine lv_tableIn (off := 650) (tgt := 683) hx hb dL_law_33 (by decide) (by decide) (by decide) (by decide) ?_
          exact L_c19 C hI hi6 kk H locs hP hD hS ls hl
        · refine lv_tableIn (off := 663) (tgt := 696) hx hb dL_law_33 (by decide) (by decide) (by decide) (by decide) ?_
          exact L_c20 C hI hi6 kk H locs hP hD hS ls hl
        · refine lv_tableIn (off := 686) (tgt := 719) hx hb dL_law_33 (by decide) (by decide) (by decide) (by decide) ?_
          exact L_c21 C hI hi6 kk H locs hP hD hS ls hl
      · refine lv_tableOut (tgt := 733) hx hb dL_law_33 (Or.inr (by rw [nI_toInt (by omega)]; omega)) (by decide) ?_
        exact kk σ hI H locs hP hD hS ls hl
