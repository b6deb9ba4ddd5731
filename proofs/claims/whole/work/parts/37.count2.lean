/-! count -/
noncomputable def v_count (m : Mt) (x : Int32) : Int32 := if x = 0 then nI (bN (mB m)) else if x = 1 then nI (sumN (bP (mB m)) (bN (mB m))) else if x = 2 then nI (sumN (bM (mB m)) (bN (mB m))) else if x = 3 then nI (goC (wy (mB m) (mK m)) (bP (mB m)) 0 (bN (mB m))) else if x = 4 then nI (goC (wy (mB m) (mK m)) (bP (mB m)) 3 (bN (mB m))) else if x = 5 then nI (cntS (mS m) 8) else if x = 6 then nI (sumN (fun s => (mS m s).length) 8) else if x = 7 then nI (mE m).length else if x = 8 then nI (mP m).length else if x = 9 then nI (mR m) else if x = 10 then nI (mH m) else -102
section
variable {l : Launch} {D : va_G} {ad : Nat → Nat} {cA : ClassId} {x y z w : Int32} {S S' : zS} {m : Mt}
theorem x_count (h : InvX S m) (hm : MOk m) : Sp (l, wX, D, ad, cA) 2 m_SB_count [.ref 0, .int x] S (fun v S' => v = .int (v_count m x) ∧ S' = S) := by
  have h4 := hm.2.2.1.1
  have hmem : ∀ k, k < 4 → f_mem S 3 (nI k) = nI (bM (mB m) k) := fun k hk => by
    rw [gM_eq (m := m) h.2.2.1]
    unfold gM
    have hin : (0 : Int32) ≤ nI k ∧ nI k < 4 := in_n (n := 4) hk (by omega)
    rw [if_pos hin, nI_clamp (by omega)]
  unfold v_count
  refine Sp.of dk_SB_count ok_SB_count rfl (g_ld rfl rfl rfl ?_)
  by_cases hy : 0 ≤ x ∧ x < 11
  · obtain ⟨i, hi, rfl, -⟩ := in_cl (n := 11) hy.1 hy.2
    have h6 : i = 0 ∨ i = 1 ∨ i = 2 ∨ i = 3 ∨ i = 4 ∨ i = 5 ∨ i = 6 ∨ i = 7 ∨ i = 8 ∨ i = 9 ∨ i = 10 := by omega
    rcases h6 with e | e | e | e | e | e | e | e | e | e | e
    · subst e
      rw [if_pos (by decide)]
      refine g_tin (off := 59) (tgt := 60) rfl (by decide) (by decide) (by decide) (by decide) (g_ld rfl rfl rfl (g_gr rfl rfl rfl rfl rfl (g_gi rfl rfl rfl rfl rfl (g_ri rfl rfl rfl ?_))))
      exact ⟨by rw [h.2.2.1.1], rfl⟩
    · subst e
      rw [if_neg (by decide), if_pos (by decide)]
      refine g_tin (off := 67) (tgt := 68) rfl (by decide) (by decide) (by decide) (by decide) (g_ld rfl rfl rfl (g_gr rfl rfl rfl rfl rfl (g_cv rfl (s_allParameters h4 h.2.2.1.1) (by omega) rfl rfl rfl rfl rfl rfl rfl rfl rfl (z_k1 (g_ri rfl rfl rfl ?_)))))
      exact ⟨by rw [sumF_eq _ (fun k hk => bk_par h.2.2.1 hm.2.2.1 (by omega))], rfl⟩
    · subst e
      rw [if_neg (by decide), if_neg (by decide), if_pos (by decide)]
      refine g_tin (off := 75) (tgt := 76) rfl (by decide) (by decide) (by decide) (by decide) (g_ld rfl rfl rfl (g_gr rfl rfl rfl rfl rfl (g_cv rfl (s_allMembers h4 h.2.2.1.1) (by omega) rfl rfl rfl rfl rfl rfl rfl rfl rfl (z_k1 (g_ri rfl rfl rfl ?_)))))
      exact ⟨by rw [sumF_eq (g := bM (mB m)) _ (fun k hk => hmem k (by omega))], rfl⟩
    · subst e
      rw [if_neg (by decide), if_neg (by decide), if_neg (by decide), if_pos (by decide)]
      refine g_tin (off := 83) (tgt := 84) rfl (by decide) (by decide) (by decide) (by decide) (g_ld rfl rfl rfl (g_gr rfl rfl rfl rfl rfl (g_c rfl rfl (g_cv rfl (s_howManyGo h.2.2.1 hm.2.2.1 h.2.2.2.2.1 (t := 0) (by omega) rfl) (by omega) rfl rfl rfl rfl rfl rfl rfl rfl rfl (z_k1 (g_ri rfl rfl rfl ?_))))))
      exact ⟨rfl, rfl⟩
    · subst e
      rw [if_neg (by decide), if_neg (by decide), if_neg (by decide), if_neg (by decide), if_pos (by decide)]
      refine g_tin (off := 92) (tgt := 93) rfl (by decide) (by decide) (by decide) (by decide) (g_ld rfl rfl rfl (g_gr rfl rfl rfl rfl rfl (g_c rfl rfl (g_cv rfl (s_howManyGo h.2.2.1 hm.2.2.1 h.2.2.2.2.1 (t := 3) (by omega) rfl) (by omega) rfl rfl rfl rfl rfl rfl rfl rfl rfl (z_k1 (g_ri rfl rfl rfl ?_))))))
      exact ⟨rfl, rfl⟩
    · subst e
      rw [if_neg (by decide), if_neg (by decide), if_neg (by decide), if_neg (by decide), if_neg (by decide), if_pos (by decide)]
      refine g_tin (off := 101) (tgt := 102) rfl (by decide) (by decide) (by decide) (by decide) (g_ld rfl rfl rfl (g_gr rfl rfl rfl rfl rfl (g_cv rfl (s_filledSlots) (by omega) rfl rfl rfl rfl rfl rfl rfl rfl rfl (z_k1 (g_ri rfl rfl rfl ?_)))))
      exact ⟨by rw [cnt_eq (sl := mS m) (fun s hs => ⟨(h.2.2.2.1.2.1 s hs).1, (h.sl hm s hs).2.1⟩) 8 (by omega)], rfl⟩
    · subst e
      rw [if_neg (by decide), if_neg (by decide), if_neg (by decide), if_neg (by decide), if_neg (by decide), if_neg (by decide), if_pos (by decide)]
      refine g_tin (off := 109) (tgt := 110) rfl (by decide) (by decide) (by decide) (by decide) (g_ld rfl rfl rfl (g_gr rfl rfl rfl rfl rfl (g_cv rfl (s_allSigns) (by omega) rfl rfl rfl rfl rfl rfl rfl rfl rfl (z_k1 (g_ri rfl rfl rfl ?_)))))
      exact ⟨by rw [sumF_eq (g := fun s => (mS m s).length) _ (fun s hs => (h.2.2.2.1.2.1 s hs).1)], rfl⟩
    · subst e
      rw [if_neg (by decide), if_neg (by decide), if_neg (by decide), if_neg (by decide), if_neg (by decide), if_neg (by decide), if_neg (by decide), if_pos (by decide)]
      refine g_tin (off := 117) (tgt := 118) rfl (by decide) (by decide) (by decide) (by decide) (g_ld rfl rfl rfl (g_gr rfl rfl rfl rfl rfl (g_gi rfl rfl rfl rfl rfl (g_ri rfl rfl rfl ?_))))
      exact ⟨by rw [show S.1 18 5 = nI (mE m).length from h.2.2.2.1.2.2.1], rfl⟩
    · subst e
      rw [if_neg (by decide), if_neg (by decide), if_neg (by decide), if_neg (by decide), if_neg (by decide), if_neg (by decide), if_neg (by decide), if_neg (by decide), if_pos (by decide)]
      refine g_tin (off := 125) (tgt := 126) rfl (by decide) (by decide) (by decide) (by decide) (g_ld rfl rfl rfl (g_gr rfl rfl rfl rfl rfl (g_gi rfl rfl rfl rfl rfl (g_ri rfl rfl rfl ?_))))
      exact ⟨by rw [h.1], rfl⟩
    · subst e
      rw [if_neg (by decide), if_neg (by decide), if_neg (by decide), if_neg (by decide), if_neg (by decide), if_neg (by decide), if_neg (by decide), if_neg (by decide), if_neg (by decide), if_pos (by decide)]
      refine g_tin (off := 133) (tgt := 134) rfl (by decide) (by decide) (by decide) (by decide) (g_ld rfl rfl rfl (g_gi rfl rfl rfl rfl rfl (g_ri rfl rfl rfl ?_)))
      exact ⟨by rw [h.2.2.2.2.2.2.2.2.2.1], rfl⟩
    · subst e
      rw [if_neg (by decide), if_neg (by decide), if_neg (by decide), if_neg (by decide), if_neg (by decide), if_neg (by decide), if_neg (by decide), if_neg (by decide), if_neg (by decide), if_neg (by decide), if_pos (by decide)]
      refine g_tin (off := 138) (tgt := 139) rfl (by decide) (by decide) (by decide) (by decide) (g_ld rfl rfl rfl (g_gi rfl rfl rfl rfl rfl (g_ri rfl rfl rfl ?_)))
      exact ⟨by rw [h.2.2.2.2.2.2.2.2.2.2], rfl⟩
  · have hne : ∀ k : Int32, 0 ≤ k → k < 11 → ¬ x = k := fun k h1 h2 e => hy (by rw [e]; exact ⟨h1, h2⟩)
    rw [if_neg (hne 0 (by decide) (by decide)), if_neg (hne 1 (by decide) (by decide)), if_neg (hne 2 (by decide) (by decide)), if_neg (hne 3 (by decide) (by decide)), if_neg (hne 4 (by decide) (by decide)), if_neg (hne 5 (by decide) (by decide)), if_neg (hne 6 (by decide) (by decide)), if_neg (hne 7 (by decide) (by decide)), if_neg (hne 8 (by decide) (by decide)), if_neg (hne 9 (by decide) (by decide)), if_neg (hne 10 (by decide) (by decide))]
    have ho : x.toInt < 0 ∨ 10 < x.toInt := by
      rw [Int32.le_iff_toInt_le, Int32.lt_iff_toInt_lt] at hy
      have e0 : (0 : Int32).toInt = 0 := by decide
      have e6 : (11 : Int32).toInt = 11 := by decide
      omega
    refine g_tout (tgt := 144) rfl ho (by decide) (g_c rfl rfl (g_ri rfl rfl rfl ?_))
    exact ⟨rfl, rfl⟩
end
