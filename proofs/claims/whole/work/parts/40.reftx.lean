/-! THE REFERENCE: the text. -/
section RT
variable {T : Nat → Int32} {N a y w k x : Nat} {may : Bool} {c v : Int32}
theorem fig_ge (h : ¬ a < N) : fig T N a = false := by
  cases hf : fig T N a with
  | false => rfl
  | true => exact absurd (fig_N hf) h
theorem fig_lt (h : a < N) : fig T N a = inR (T a) 48 57 := by unfold fig; rw [bh_t h]
theorem neg_ge (h : ¬ a < N) : neg T N may a = false := neg_2 (by rw [bh_f h]; decide)
theorem neg_ne (h : a < N) (h2 : ¬ T a = 45) : neg T N may a = false := neg_2 (by rw [bh_t h]; exact h2)
theorem neg_eq (hm : may = true) (h : a < N) (h2 : T a = 45) : neg T N may a = true := neg_3 hm (by rw [bh_t h]; exact h2)
theorem dg_adv (h : fig T N a = true) : a < (dg T N (k + 1) a v).1 := by
  rw [dg_s h]
  exact Nat.lt_of_lt_of_le (Nat.lt_succ_self a) (dg_N k (a + 1) _ (fig_N h)).1
theorem adv_t (he : dg T N 3 (nSt T N may a) 0 = (y, v)) (h : nSt T N may a < y) : fig T N (nSt T N may a) = true := by
  cases hf : fig T N (nSt T N may a) with
  | true => rfl
  | false => rw [dg_e hf] at he; exact absurd (congrArg Prod.fst he) (by intro q; simp at q; omega)
theorem adv_f (he : dg T N 3 (nSt T N may a) 0 = (y, v)) (h : ¬ nSt T N may a < y) : fig T N (nSt T N may a) = false := by
  cases hf : fig T N (nSt T N may a) with
  | false => rfl
  | true =>
    have h2 := dg_adv (k := 2) (v := (0 : Int32)) hf
    rw [he] at h2
    exact absurd h2 h
def nWm (c : Int32) : Int32 := if nW c = 5 then -1000001 else nI (nW c)
theorem nWm_5 (h : nW c = 5) : nWm c = -1000001 := if_pos h
theorem nWm_n (h : ¬ nW c = 5) : nWm c = nI (nW c) := if_neg h
theorem nWm_d (h2 : ¬ c = 104) (h3 : ¬ c = 107) (h5 : ¬ c = 112) (h6 : ¬ c = 120) (h4 : ¬ c = 109) (h1 : ¬ c = 99) : -1000001 = nWm c := by
  have h : nW c = 5 := by
    unfold nW
    rw [if_neg h2, if_neg h3, if_neg (show ¬ (c = 112 ∨ c = 120 ∨ c = 109) from fun h => h.elim h5 (fun h => h.elim h6 h4)), if_neg h1]
  exact (nWm_5 h).symm
theorem bh59_N (h : ¬ a < N) : ¬ bh T N a = 59 := by rw [bh_f h]; decide
theorem bh59_n (h : a < N) (h2 : ¬ T a = 59) : ¬ bh T N a = 59 := by rw [bh_t h]; exact h2
theorem bh59_t (h : a < N) (h2 : T a = 59) : bh T N a = 59 := by rw [bh_t h]; exact h2
theorem mayR_f (h : w < nW c) (h5 : ¬ nW c = 5) (h2 : ¬ w = 2) : mayB c w = false := (mayB_w h h5).trans (decide_eq_false h2)
theorem mayR_t (h : w < nW c) (h5 : ¬ nW c = 5) (h2 : w = 2) : mayB c w = true := (mayB_w h h5).trans (decide_eq_true h2)
def ffV (T : Nat → Int32) (N : Nat) : Int32 := if (txt T N).1 = true then -1000001 else nI (txt T N).2.1
/-- the reference's first reading: goes on or stands at the fault -/
def ffI (T : Nat → Int32) (N : Nat) (g : Bool) (x y k : Nat) : Prop := if g = true then ((0 < x ∨ y < N) ∧ tx T N k x y = txt T N ∧ N + 1 ≤ y + k) else ((txt T N).1 = false ∧ (txt T N).2.1 = y)
theorem ffI_t (h : ffI T N true x y k) : (0 < x ∨ y < N) ∧ tx T N k x y = txt T N ∧ N + 1 ≤ y + k := by
  unfold ffI at h; rw [if_pos rfl] at h; exact h
theorem ffI_f (h : ffI T N false x y k) : (txt T N).1 = false ∧ (txt T N).2.1 = y := by
  unfold ffI at h; rw [if_neg (by decide)] at h; exact h
theorem ffI_0t (h : skB T N 0 < N) : ffI T N true 0 (skB T N 0) (N + 1) := by
  unfold ffI; rw [if_pos rfl]; exact ⟨Or.inr h, rfl, by omega⟩
theorem ffI_0f (h : ¬ skB T N 0 < N) : ffI T N false 0 (skB T N 0) (N + 1) := by
  unfold ffI; rw [if_neg (by decide)]
  have h2 : txt T N = (decide (0 < 0), skB T N 0, 0) := tx_e h
  rw [h2]; exact ⟨rfl, rfl⟩
theorem ffI_s (h : ffI T N true x y k) (hy : y < N) (hN : y ≤ N) : ffI T N (ordR T N y).1 (x + 1) (onOk (ordR T N y).1 (skB T N (ordR T N y).2) (ordR T N y).2) (k - 1) := by
  obtain ⟨-, h2, h3⟩ := ffI_t h
  rw [tx_s (by omega) hy] at h2
  have h4 := ordR_N (T := T) hN
  cases hr : (ordR T N y).1 with
  | true =>
    rw [hr, if_pos rfl] at h2
    have h5 := h4.2.2 hr
    have h6 := skB_le (T := T) (N := N) (a := (ordR T N y).2)
    unfold ffI onOk; rw [if_pos rfl, if_pos rfl]
    exact ⟨Or.inl (by omega), h2, by omega⟩
  | false =>
    rw [hr, if_neg (by decide)] at h2
    unfold ffI onOk; rw [if_neg (by decide), if_neg (by decide), ← h2]
    exact ⟨rfl, rfl⟩
theorem ffI_nx (hN : y ≤ N) : onOk (ordR T N y).1 (skB T N (ordR T N y).2) (ordR T N y).2 ≤ N := by
  have h4 := ordR_N (T := T) hN
  unfold onOk
  by_cases hr : (ordR T N y).1 = true
  · rw [if_pos hr]; exact skB_N h4.2.1
  · rw [if_neg hr]; exact h4.2.1
theorem ff_end (h : ffI T N true x y k) (hy : ¬ y < N) : -1000001 = ffV T N := by
  obtain ⟨h1, h2, -⟩ := ffI_t h
  rw [tx_e hy] at h2
  unfold ffV
  rw [← h2, if_pos (decide_eq_true (h1.resolve_right hy))]
theorem ff_flt (h : ffI T N false x y k) : nI y = ffV T N := by
  obtain ⟨h1, h2⟩ := ffI_f h
  unfold ffV
  rw [if_neg (by rw [h1]; decide), h2]
theorem ffV_t (h : ffV T N = -1000001) (hN : N ≤ 120) (hl : (txt T N).2.1 ≤ N) : (txt T N).1 = true := by
  unfold ffV at h
  by_cases c : (txt T N).1 = true
  · exact c
  · rw [if_neg c] at h
    have : ∀ j, j ≤ 120 → ¬ nI j = -1000001 := by decide +kernel
    exact absurd h (this _ (by omega))
theorem ffV_f (h : ¬ ffV T N = -1000001) : (txt T N).1 = false ∧ ffV T N = nI (txt T N).2.1 := by
  unfold ffV at h ⊢
  by_cases c : (txt T N).1 = true
  · rw [if_pos c] at h; exact absurd rfl h
  · exact ⟨by cases hz : (txt T N).1 <;> simp_all, if_neg c⟩
theorem tx_le : ∀ (k o a : Nat), a ≤ N → (tx T N k o a).2.1 ≤ N
  | 0, o, a, h => h
  | k + 1, o, a, h => by
    unfold tx
    by_cases c : a < N
    · rw [if_pos c]
      have h3 := ordR_N (T := T) h
      by_cases c2 : (ordR T N a).1 = true
      · rw [if_pos c2]; exact tx_le k (o + 1) _ (skB_N h3.2.1)
      · rw [if_neg c2]; exact h3.2.1
    · rw [if_neg c]; exact h
theorem txt_le : (txt T N).2.1 ≤ N := tx_le _ _ _ (skB_N (Nat.zero_le N))
theorem tx_ge : ∀ (k o a : Nat), o ≤ (tx T N k o a).2.2
  | 0, o, a => Nat.le_refl o
  | k + 1, o, a => by
    unfold tx
    by_cases c : a < N
    · rw [if_pos c]
      by_cases c2 : (ordR T N a).1 = true
      · rw [if_pos c2]; exact Nat.le_trans (Nat.le_succ o) (tx_ge k (o + 1) _)
      · rw [if_neg c2]; exact Nat.le_refl o
    · rw [if_neg c]; exact Nat.le_refl o
/-- on the second reading every order stands -/
theorem tx_go (h : tx T N k x y = txt T N) (ht : (txt T N).1 = true) (hk : N + 1 ≤ y + k) (hy : y < N) : (ordR T N y).1 = true ∧ tx T N (k - 1) (x + 1) (skB T N (ordR T N y).2) = txt T N ∧ x < (txt T N).2.2 := by
  rw [tx_s (by omega) hy] at h
  cases hr : (ordR T N y).1 with
  | true =>
    rw [hr, if_pos rfl] at h
    refine ⟨rfl, h, ?_⟩
    rw [← h]
    exact tx_ge _ (x + 1) _
  | false => rw [hr, if_neg (by decide)] at h; rw [← h] at ht; cases ht
theorem barF_congr (L : Ln) {c : Int32} {v v' : Nat → Int32} (h : ∀ k, k < nW c → v k = v' k) : barF L c v = barF L c v' := by
  by_cases h1 : c = 104
  · subst h1; rw [← bar_104 rfl, ← bar_104 rfl, h 0 (by decide), h 1 (by decide), h 2 (by decide), h 3 (by decide)]
  · by_cases h2 : c = 107
    · subst h2; rw [← bar_107 h1 rfl, ← bar_107 h1 rfl, h 0 (by decide), h 1 (by decide)]
    · by_cases h3 : c = 109
      · subst h3; rw [← bar_109 h1 h2 rfl, ← bar_109 h1 h2 rfl, h 0 (by decide)]
      · by_cases h4 : c = 112
        · subst h4; rw [← bar_112 h1 h2 h3 rfl, ← bar_112 h1 h2 h3 rfl, h 0 (by decide)]
        · by_cases h5 : c = 120
          · subst h5; rw [← bar_120 h1 h2 h3 h4 rfl, ← bar_120 h1 h2 h3 h4 rfl, h 0 (by decide)]
          · rw [← bar_c h1 h2 h3 h4 h5, ← bar_c h1 h2 h3 h4 h5]
end RT
def bkM (k : Nat) (L : Ln) (K : Nat → Ln) : Ln := if k = 0 then L else K (k - 1)
theorem nI_ne1 {j : Nat} (h : j ≤ 120) : ¬ nI j = -1000001 := by
  have h2 : ∀ j, j ≤ 120 → ¬ nI j = -1000001 := by decide +kernel
  exact h2 j h
