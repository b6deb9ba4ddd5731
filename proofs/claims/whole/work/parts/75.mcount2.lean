/-! the reference: sums, count, image, see -/
section
variable {l : Launch} {D : va_G} {ad : Nat → Nat} {cA : ClassId} {x y z w : Int32} {S S' S0 : zS} {m : Mt} {B : Bk} {n p k r q c t : Nat}
theorem lp_sumOf {N : Nat} {g : Nat → Nat} (hr : Nat.blt r 27 = true) (hN : wM.2.1 r = .inr N) (hn : n ≤ N) (hN2 : N < 2 ^ 31) (hg : ∀ k, k < n → S.1 r k = nI (g k)) : ∀ (k i : Nat), i + k = n → Go (l, wM, D, ad, cA) 0 m_M_sumOf (fun v S' => v = .int (nI (sumN g n)) ∧ S' = S) 5 [some (.ref 0), some (.ref r), some (.int (nI n)), some (.int (nI (sumN g i))), some (.int (nI i))] [] S
  | 0, i, e => by
    have e6 : i = n := by omega
    subst e6
    refine (g_ld rfl rfl rfl (g_ld rfl rfl rfl (g_if rfl rfl (fun zc8 => (g_ld rfl rfl rfl (g_ri rfl rfl rfl ?_))) (fun zc8 => ?_))))
    · exact ⟨rfl, rfl⟩
    · exact absurd (Int32.le_refl _) zc8
  | k + 1, i, e => by
    have ih := lp_sumOf hr hN hn hN2 hg k (i + 1) (by omega)
    refine (g_ld rfl rfl rfl (g_ld rfl rfl rfl (g_if rfl rfl (fun zc8 => (g_ld rfl rfl rfl (g_ri rfl rfl rfl ?_))) (fun zc8 => ?_))))
    · have := le_n zc8
      omega
    · refine (g_ld rfl rfl rfl (g_ld rfl rfl rfl (g_ld rfl rfl rfl (g_ald rfl hr hN ?_ (g_bin rfl rfl (g_st rfl rfl rfl rfl rfl (g_inc rfl rfl rfl rfl (g_go rfl ?_))))))))
      · exact vp_in_nI (by omega) hN2
      · rw [nI_clamp (by omega), hg i (by omega), nI_add]
        have es : sumN g (i + 1) = sumN g i + g i := rfl
        rw [es, nI_succ i] at ih
        exact ih
theorem s_sumOf {N : Nat} {g : Nat → Nat} (hr : Nat.blt r 27 = true) (hN : wM.2.1 r = .inr N) (hn : n ≤ N) (hN2 : N < 2 ^ 31) (hg : ∀ k, k < n → S.1 r k = nI (g k)) (hx : x = nI n) : Sp (l, wM, D, ad, cA) 0 m_M_sumOf [.ref 0, .ref r, .int x] S (fun v S' => v = .int (nI (sumN g n)) ∧ S' = S) := by
  subst hx
  refine Sp.of dk_M_sumOf ok_M_sumOf rfl (g_c rfl rfl (g_st rfl rfl rfl rfl rfl (g_c rfl rfl (g_st rfl rfl rfl rfl rfl ?_))))
  exact lp_sumOf hr hN hn hN2 hg n 0 (by omega)
theorem lp_going (h : InvM S m) (hm : MOk m) (ht : t < 4) : ∀ (k i : Nat), i + k = 2 * bN (mB m) → Go (l, wM, D, ad, cA) 0 m_M_going (fun v S' => v = .int (nI (goC (wy (mB m) (mK m)) (bP (mB m)) t (bN (mB m)))) ∧ S' = S) 4 [some (.ref 0), some (.int (nI t)), some (.int (nI (goK (wy (mB m) (mK m)) (bP (mB m)) t i))), some (.int (nI i))] [] S
  | 0, i, e => by
    have h4 := hm.2.2.1.1
    have e6 : i = 2 * bN (mB m) := by omega
    subst e6
    rw [← goK_eq hm.2.2.1.2.1]
    refine (g_ld rfl rfl rfl (g_c rfl rfl (g_ld rfl rfl rfl (g_gi rfl rfl rfl rfl rfl (g_bin rfl rfl (g_if rfl rfl (fun zc11 => (g_ld rfl rfl rfl (g_ri rfl rfl rfl ?_))) (fun zc11 => ?_)))))))
    · exact ⟨rfl, rfl⟩
    · rw [h.2.2.1.1, show (2 : Int32) = nI 2 from rfl, pk_mul] at zc11
      exact absurd (Int32.le_refl _) zc11
  | k + 1, i, e => by
    have h4 := hm.2.2.1.1
    have hP2 := hm.2.2.1.2.1 (i / 2)
    have ih := lp_going h hm ht k (i + 1) (by omega)
    have es : goK (wy (mB m) (mK m)) (bP (mB m)) t (i + 1) = goK (wy (mB m) (mK m)) (bP (mB m)) t i + (if i % 2 < bP (mB m) (i / 2) ∧ wy (mB m) (mK m) i = t then 1 else 0) := rfl
    have d2 := div2 i (by omega)
    have hv := wy_lt (mB m) (mK m) i
    refine (g_ld rfl rfl rfl (g_c rfl rfl (g_ld rfl rfl rfl (g_gi rfl rfl rfl rfl rfl (g_bin rfl rfl (g_if rfl rfl (fun zc11 => (g_ld rfl rfl rfl (g_ri rfl rfl rfl ?_))) (fun zc11 => (g_ld rfl rfl rfl (g_ld rfl rfl rfl (g_c rfl rfl (g_irem rfl (by decide) (g_ld rfl rfl rfl (g_gr rfl rfl rfl rfl rfl (g_ld rfl rfl rfl (g_c rfl rfl (g_idiv rfl (by decide) (g_ald rfl rfl rfl ?_ (g_if rfl rfl (fun zc26 => (g_c rfl rfl (g_bin rfl rfl (g_st rfl rfl rfl rfl rfl (g_inc rfl rfl rfl rfl (g_go rfl ?_)))))) (fun zc26 => (g_ld rfl rfl rfl (g_gr rfl rfl rfl rfl rfl (g_ld rfl rfl rfl (g_ald rfl rfl rfl ?_ (g_ld rfl rfl rfl (g_if rfl rfl (fun zc36 => (g_c rfl rfl (g_bin rfl rfl (g_st rfl rfl rfl rfl rfl (g_inc rfl rfl rfl rfl (g_go rfl ?_)))))) (fun zc36 => (g_c rfl rfl (g_go rfl (g_bin rfl rfl (g_st rfl rfl rfl rfl rfl (g_inc rfl rfl rfl rfl (g_go rfl ?_))))))))))))))))))))))))))))))))
    · rw [h.2.2.1.1, show (2 : Int32) = nI 2 from rfl, pk_mul] at zc11
      have := le_n zc11
      omega
    · rw [d2.1]
      exact vp_in_nI (show i / 2 < 4 by omega) (by decide)
    · rw [d2.1, nI_clamp (by omega), h.2.2.1.2.1 (i / 2) (by omega)] at zc26
      have e2 := d2.2
      rw [d2.1] at e2
      rw [e2] at zc26
      have g : ¬ (i % 2 < bP (mB m) (i / 2) ∧ wy (mB m) (mK m) i = t) := fun g => by
        have := le_n zc26
        omega
      rw [es, if_neg g, nI_succ i] at ih
      rw [show ∀ a : Nat, nI a + 0 = nI (a + 0) from fun a => nI_add a 0]
      exact ih
    · exact vp_in_nI (show i < 8 by omega) (by decide)
    · rw [nI_clamp (by omega), h.2.2.2.2.1 i (by omega)] at zc36
      have g : ¬ (i % 2 < bP (mB m) (i / 2) ∧ wy (mB m) (mK m) i = t) := fun g => zc36 (by rw [g.2])
      rw [es, if_neg g, nI_succ i] at ih
      rw [show ∀ a : Nat, nI a + 0 = nI (a + 0) from fun a => nI_add a 0]
      exact ih
    · rw [d2.1, nI_clamp (by omega), h.2.2.1.2.1 (i / 2) (by omega)] at zc26
      have e2 := d2.2
      rw [d2.1] at e2
      rw [e2] at zc26
      rw [nI_clamp (by omega), h.2.2.2.2.1 i (by omega)] at zc36
      have g : i % 2 < bP (mB m) (i / 2) ∧ wy (mB m) (mK m) i = t := ⟨nle_n zc26, eq_n (Decidable.not_not.mp zc36)⟩
      rw [es, if_pos g, nI_succ i, nI_succ] at ih
      exact ih
theorem s_going (h : InvM S m) (hm : MOk m) (ht : t < 4) (hx : x = nI t) : Sp (l, wM, D, ad, cA) 0 m_M_going [.ref 0, .int x] S (fun v S' => v = .int (nI (goC (wy (mB m) (mK m)) (bP (mB m)) t (bN (mB m)))) ∧ S' = S) := by
  subst hx
  refine Sp.of dk_M_going ok_M_going rfl (g_c rfl rfl (g_st rfl rfl rfl rfl rfl (g_c rfl rfl (g_st rfl rfl rfl rfl rfl ?_))))
  exact lp_going h hm ht (2 * bN (mB m)) 0 (by omega)
theorem y_countOf (h : InvM S m) (hm : MOk m) : Sp (l, wM, D, ad, cA) 1 m_M_countOf [.ref 0, .int x] S (fun v S' => v = .int (v_count m x) ∧ S' = S) := by
  have h4 := hm.2.2.1.1
  unfold v_count
  refine Sp.of dk_M_countOf ok_M_countOf rfl (g_ld rfl rfl rfl ?_)
  by_cases hy : 0 ≤ x ∧ x < 11
  · obtain ⟨i, hi, rfl, -⟩ := in_cl (n := 11) hy.1 hy.2
    have h6 : i = 0 ∨ i = 1 ∨ i = 2 ∨ i = 3 ∨ i = 4 ∨ i = 5 ∨ i = 6 ∨ i = 7 ∨ i = 8 ∨ i = 9 ∨ i = 10 := by omega
    rcases h6 with e | e | e | e | e | e | e | e | e | e | e
    · subst e
      rw [if_pos (by decide)]
      refine g_tin (off := 59) (tgt := 60) rfl (by decide) (by decide) (by decide) (by decide) (g_ld rfl rfl rfl (g_gi rfl rfl rfl rfl rfl (g_ri rfl rfl rfl ?_)))
      exact ⟨by rw [h.2.2.1.1], rfl⟩
    · subst e
      rw [if_neg (by decide), if_pos (by decide)]
      refine g_tin (off := 64) (tgt := 65) rfl (by decide) (by decide) (by decide) (by decide) (g_ld rfl rfl rfl (g_ld rfl rfl rfl (g_gr rfl rfl rfl rfl rfl (g_ld rfl rfl rfl (g_gi rfl rfl rfl rfl rfl (g_cv rfl (s_sumOf (n := bN (mB m)) (N := 4) (g := bP (mB m)) rfl rfl h4 (by decide) h.2.2.1.2.1 h.2.2.1.1) (by omega) rfl rfl rfl rfl rfl rfl rfl rfl rfl (z_k1 (g_ri rfl rfl rfl ?_))))))))
      exact ⟨rfl, rfl⟩
    · subst e
      rw [if_neg (by decide), if_neg (by decide), if_pos (by decide)]
      refine g_tin (off := 77) (tgt := 78) rfl (by decide) (by decide) (by decide) (by decide) (g_ld rfl rfl rfl (g_ld rfl rfl rfl (g_gr rfl rfl rfl rfl rfl (g_ld rfl rfl rfl (g_gi rfl rfl rfl rfl rfl (g_cv rfl (s_sumOf (n := bN (mB m)) (N := 4) (g := bM (mB m)) rfl rfl h4 (by decide) h.2.2.1.2.2.1 h.2.2.1.1) (by omega) rfl rfl rfl rfl rfl rfl rfl rfl rfl (z_k1 (g_ri rfl rfl rfl ?_))))))))
      exact ⟨rfl, rfl⟩
    · subst e
      rw [if_neg (by decide), if_neg (by decide), if_neg (by decide), if_pos (by decide)]
      refine g_tin (off := 90) (tgt := 91) rfl (by decide) (by decide) (by decide) (by decide) (g_ld rfl rfl rfl (g_c rfl rfl (g_cv rfl (s_going h hm (t := 0) (by omega) rfl) (by omega) rfl rfl rfl rfl rfl rfl rfl rfl rfl (z_k1 (g_ri rfl rfl rfl ?_)))))
      exact ⟨rfl, rfl⟩
    · subst e
      rw [if_neg (by decide), if_neg (by decide), if_neg (by decide), if_neg (by decide), if_pos (by decide)]
      refine g_tin (off := 96) (tgt := 97) rfl (by decide) (by decide) (by decide) (by decide) (g_ld rfl rfl rfl (g_c rfl rfl (g_cv rfl (s_going h hm (t := 3) (by omega) rfl) (by omega) rfl rfl rfl rfl rfl rfl rfl rfl rfl (z_k1 (g_ri rfl rfl rfl ?_)))))
      exact ⟨rfl, rfl⟩
    · subst e
      rw [if_neg (by decide), if_neg (by decide), if_neg (by decide), if_neg (by decide), if_neg (by decide), if_pos (by decide)]
      refine g_tin (off := 102) (tgt := 103) rfl (by decide) (by decide) (by decide) (by decide) (g_ld rfl rfl rfl (g_cv rfl (s_slotsUsed h hm) (by omega) rfl rfl rfl rfl rfl rfl rfl rfl rfl (z_k1 (g_ri rfl rfl rfl ?_))))
      exact ⟨rfl, rfl⟩
    · subst e
      rw [if_neg (by decide), if_neg (by decide), if_neg (by decide), if_neg (by decide), if_neg (by decide), if_neg (by decide), if_pos (by decide)]
      refine g_tin (off := 107) (tgt := 108) rfl (by decide) (by decide) (by decide) (by decide) (g_ld rfl rfl rfl (g_ld rfl rfl rfl (g_gr rfl rfl rfl rfl rfl (g_c rfl rfl (g_cv rfl (s_sumOf (n := 8) (N := 8) (g := fun s => (mS m s).length) rfl rfl (by omega) (by decide) (fun s hs => (h.2.2.2.1.2.1 s hs).1) rfl) (by omega) rfl rfl rfl rfl rfl rfl rfl rfl rfl (z_k1 (g_ri rfl rfl rfl ?_)))))))
      exact ⟨rfl, rfl⟩
    · subst e
      rw [if_neg (by decide), if_neg (by decide), if_neg (by decide), if_neg (by decide), if_neg (by decide), if_neg (by decide), if_neg (by decide), if_pos (by decide)]
      refine g_tin (off := 118) (tgt := 119) rfl (by decide) (by decide) (by decide) (by decide) (g_ld rfl rfl rfl (g_gi rfl rfl rfl rfl rfl (g_ri rfl rfl rfl ?_)))
      exact ⟨by rw [h.2.2.2.1.2.2.1]; rfl, rfl⟩
    · subst e
      rw [if_neg (by decide), if_neg (by decide), if_neg (by decide), if_neg (by decide), if_neg (by decide), if_neg (by decide), if_neg (by decide), if_neg (by decide), if_pos (by decide)]
      refine g_tin (off := 123) (tgt := 124) rfl (by decide) (by decide) (by decide) (by decide) (g_ld rfl rfl rfl (g_gi rfl rfl rfl rfl rfl (g_ri rfl rfl rfl ?_)))
      exact ⟨by rw [h.1], rfl⟩
    · subst e
      rw [if_neg (by decide), if_neg (by decide), if_neg (by decide), if_neg (by decide), if_neg (by decide), if_neg (by decide), if_neg (by decide), if_neg (by decide), if_neg (by decide), if_pos (by decide)]
      refine g_tin (off := 128) (tgt := 129) rfl (by decide) (by decide) (by decide) (by decide) (g_ld rfl rfl rfl (g_gi rfl rfl rfl rfl rfl (g_ri rfl rfl rfl ?_)))
      exact ⟨by rw [h.2.2.2.2.2.2.2.1], rfl⟩
    · subst e
      rw [if_neg (by decide), if_neg (by decide), if_neg (by decide), if_neg (by decide), if_neg (by decide), if_neg (by decide), if_neg (by decide), if_neg (by decide), if_neg (by decide), if_neg (by decide), if_pos (by decide)]
      refine g_tin (off := 133) (tgt := 134) rfl (by decide) (by decide) (by decide) (by decide) (g_ld rfl rfl rfl (g_gi rfl rfl rfl rfl rfl (g_ri rfl rfl rfl ?_)))
      exact ⟨by rw [h.2.2.2.2.2.2.2.2], rfl⟩
  · have hne : ∀ k : Int32, 0 ≤ k → k < 11 → ¬ x = k := fun k h1 h2 e => hy (by rw [e]; exact ⟨h1, h2⟩)
    rw [if_neg (hne 0 (by decide) (by decide)), if_neg (hne 1 (by decide) (by decide)), if_neg (hne 2 (by decide) (by decide)), if_neg (hne 3 (by decide) (by decide)), if_neg (hne 4 (by decide) (by decide)), if_neg (hne 5 (by decide) (by decide)), if_neg (hne 6 (by decide) (by decide)), if_neg (hne 7 (by decide) (by decide)), if_neg (hne 8 (by decide) (by decide)), if_neg (hne 9 (by decide) (by decide)), if_neg (hne 10 (by decide) (by decide))]
    have ho : x.toInt < 0 ∨ 10 < x.toInt := by
      rw [Int32.le_iff_toInt_le, Int32.lt_iff_toInt_lt] at hy
      have e0 : (0 : Int32).toInt = 0 := by decide
      have e6 : (11 : Int32).toInt = 11 := by decide
      omega
    refine g_tout (tgt := 139) rfl ho (by decide) (g_c rfl rfl (g_ri rfl rfl rfl ?_))
    exact ⟨rfl, rfl⟩
theorem y_count (h : InvM S m) (hm : MOk m) : Sp (l, wM, D, ad, cA) 2 m_M_count [.ref 0, .int x] S (fun v S' => v = .int (v_count m x) ∧ S' = S) := by
  refine Sp.of dk_M_count ok_M_count rfl (g_ld rfl rfl rfl (g_ld rfl rfl rfl (g_cv rfl (y_countOf h hm) (by omega) rfl rfl rfl rfl rfl rfl rfl rfl rfl (z_k1 (g_ri rfl rfl rfl ?_)))))
  exact ⟨rfl, rfl⟩
end
