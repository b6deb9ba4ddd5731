/-! the reference: addsOf, member -/
section
variable {l : Launch} {D : va_G} {ad : Nat → Nat} {cA : ClassId} {x y z w : Int32} {S S' S0 : zS} {m : Mt} {B : Bk} {V : Nat → Nat} {t u v A : List Nat} {n p k r c j s o a b i N st of L n0 : Nat} {x1 x2 : Int32}
theorem s_addsOf (h : InvM S m) (hm : MOk m) (hc : c < bN (mB m)) (hj : j < bM (mB m) c) (hp : p < 2) (hx : x = nI p) : Sp (l, wM, D, ad, cA) 3 m_M_addsOf [.ref 0, .int (nI c), .int (nI j), .int x] S (fun v S' => v = .int (adI m c (3 * c + j) p) ∧ Am [16] [24, 25] S S') := by
  subst hx
  have hW := hm.2.2.1
  have h4 := hW.1
  have h3 := hW.2.2.2.1 c
  have hP2 := hW.2.1 c
  have hk5 : mK m (3 * c + j) < 5 := hm.2.2.2.1.1 (3 * c + j)
  have hty := (hW.2.2.2.2.1 c j (by omega) (by omega)).1 hj
  obtain ⟨st, t1, t2, t3⟩ := h.2.2.1.2.2.2.2.2 c j hc hj
  have rK : S.1 11 (4 * nI c + nI j).toNatClampNeg = nI (mK m (3 * c + j)) := by rw [e4, nI_clamp (by omega)]; exact h.2.2.2.1.1 c j hc hj
  have r9 : S.1 9 (4 * nI c + nI j + 1).toNatClampNeg = nI st := by rw [e4, ← nI_succ, nI_clamp (by omega)]; exact t1
  unfold adI mTl
  refine Sp.of dk_M_addsOf ok_M_addsOf rfl (g_ld rfl rfl rfl (g_ld rfl rfl rfl (g_gr rfl rfl rfl rfl rfl (g_c rfl rfl (g_ld rfl rfl rfl (g_bin rfl rfl (g_ld rfl rfl rfl (g_bin rfl rfl (g_c rfl rfl (g_bin rfl rfl (g_ald rfl rfl rfl ?_ (g_ld rfl rfl rfl (g_gr rfl rfl rfl rfl rfl (g_c rfl rfl (g_ld rfl rfl rfl (g_bin rfl rfl (g_ld rfl rfl rfl (g_bin rfl rfl (g_ald rfl rfl rfl ?_ ?_)))))))))))))))))))
  · rw [e4, ← nI_succ]; exact vp_in_nI (show 4 * c + j + 1 < 16 by omega) (by decide)
  · rw [e4]; exact vp_in_nI (show 4 * c + j < 16 by omega) (by decide)
  · rw [r9, rK]
    refine (g_cs rfl (s_waysBy hk5) (by omega) rfl rfl rfl rfl rfl rfl (z_k1 (g_cv rfl (s_layType (t := bT (mB m) (3 * c + j)) h.2.2.1 hW (wy_lt (mB m) (mK m)) h.2.2.2.2.1 hty t3 t2 (kwn_lt _) rfl rfl) (by omega) rfl rfl rfl rfl rfl rfl rfl rfl rfl (fun zv26 zS26 zh26 => ?_))))
    obtain ⟨rfl, hA, q1, q2⟩ := zh26
    have rP : zS26.1 6 (nI c).toNatClampNeg = nI (bP (mB m) c) := by rw [nI_clamp (by omega), hA.1 6 (by decide) (by decide)]; exact h.2.2.1.2.1 c hc
    refine (g_ld rfl rfl rfl (g_ld rfl rfl rfl (g_gr rfl rfl rfl rfl rfl (g_ld rfl rfl rfl (g_ald rfl rfl rfl ?_ (g_if rfl rfl (fun zc36 => (g_ld rfl rfl rfl (g_if rfl rfl (fun zc44 => (g_ld rfl rfl rfl (g_gi rfl rfl rfl rfl rfl (g_ri rfl rfl rfl ?_)))) (fun zc44 => (g_ld rfl rfl rfl (g_gi rfl rfl rfl rfl rfl (g_go rfl (g_ri rfl rfl rfl ?_)))))))) (fun zc36 => (g_c rfl rfl (g_go rfl (g_ri rfl rfl rfl ?_))))))))))
    · exact vp_in_nI (show c < 4 by omega) (by decide)
    · rw [rP] at zc36
      have g : p < bP (mB m) c := lt_n zc36
      rw [if_pos g]
      rw [if_neg (fun e => zc44 (by rw [e]; rfl)), q2]
      exact ⟨rfl, hA⟩
    · rw [rP] at zc36
      have g : p < bP (mB m) c := lt_n zc36
      rw [if_pos g]
      rw [if_pos (eq_n (b := 0) (Decidable.not_not.mp zc44)), q1]
      exact ⟨rfl, hA⟩
    · rw [rP] at zc36
      rw [if_neg (fun g => zc36 (nI_lt g (by omega)))]
      exact ⟨rfl, hA⟩
theorem v_mem_at (hm : MOk m) (hc : c < bN (mB m)) (hj : j < bM (mB m) c) : v_member m (nI c) (nI j) z = (if z = 0 then nI (mK m (3 * c + j)) else if z = 1 then adI m c (3 * c + j) 0 else if z = 2 then adI m c (3 * c + j) 1 else if z = 3 then nI (bT (mB m) (3 * c + j)).length else if z = 4 then nI (mSo m (3 * c + j)) else if z = 5 then f_bta (nI (mSo m (3 * c + j))) 3 0 (-1) (f_bc (nI (mSo m (3 * c + j))) + 1) else -102) := by
  have hW := hm.2.2.1
  have h4 := hW.1
  have h3 := hW.2.2.2.1 c
  have hgM : gM m (nI c) = nI (bM (mB m) c) := by unfold gM; rw [if_pos (in4 (by omega)), nI_clamp (by omega)]
  have hin : (0 : Int32) ≤ nI j ∧ nI j < gM m (nI c) := by rw [hgM]; exact ⟨(in_n (n := 4) (show j < 4 by omega) (by omega)).1, nI_lt hj (by omega)⟩
  have e3 : 3 * nI c + nI j = nI (3 * c + j) := by rw [show (3 : Int32) = nI 3 from rfl, pk_mul, nI_add]
  have hgK : gK m (nI c) (nI j) = nI (mK m (3 * c + j)) := by unfold gK; rw [e3, if_pos (in12 (by omega)), nI_clamp (by omega)]
  unfold v_member
  rw [if_pos hin, e3, nI_clamp (show 3 * c + j < 2 ^ 31 by omega), nI_clamp (show c < 2 ^ 31 by omega), hgK]
theorem s_tellMember (h : InvM S m) (hm : MOk m) (hc : c < bN (mB m)) (hj : j < bM (mB m) c) : Sp (l, wM, D, ad, cA) 4 m_M_tellMember [.ref 0, .int (nI c), .int (nI j), .int z] S (fun v S' => v = .int (v_member m (nI c) (nI j) z) ∧ Am [16] [24, 25] S S') := by
  have hW := hm.2.2.1
  have h4 := hW.1
  have h3 := hW.2.2.2.1 c
  have hty := (hW.2.2.2.2.1 c j (by omega) (by omega)).1 hj
  rw [v_mem_at hm hc hj]
  refine Sp.of dk_M_tellMember ok_M_tellMember rfl (g_ld rfl rfl rfl ?_)
  by_cases hy : 0 ≤ z ∧ z < 6
  · obtain ⟨i, hi, rfl, -⟩ := in_cl (n := 6) hy.1 hy.2
    have h6 : i = 0 ∨ i = 1 ∨ i = 2 ∨ i = 3 ∨ i = 4 ∨ i = 5 := by omega
    rcases h6 with e | e | e | e | e | e
    · subst e
      rw [if_pos (by decide)]
      refine g_tin (off := 39) (tgt := 40) rfl (by decide) (by decide) (by decide) (by decide) (g_ld rfl rfl rfl (g_gr rfl rfl rfl rfl rfl (g_c rfl rfl (g_ld rfl rfl rfl (g_bin rfl rfl (g_ld rfl rfl rfl (g_bin rfl rfl (g_ald rfl rfl rfl ?_ (g_ri rfl rfl rfl ?_)))))))))
      · rw [e4]; exact vp_in_nI (show 4 * c + j < 16 by omega) (by decide)
      · rw [e4, nI_clamp (by omega), h.2.2.2.1.1 c j hc hj]; exact ⟨rfl, Am.rf⟩
    · subst e
      rw [if_neg (by decide), if_pos (by decide)]
      refine g_tin (off := 50) (tgt := 51) rfl (by decide) (by decide) (by decide) (by decide) (g_ld rfl rfl rfl (g_ld rfl rfl rfl (g_ld rfl rfl rfl (g_ld rfl rfl rfl (g_c rfl rfl (g_bin rfl rfl (g_cv rfl (s_addsOf h hm hc hj (p := 0) (by omega) rfl) (by omega) rfl rfl rfl rfl rfl rfl rfl rfl rfl (fun zv57 zS57 zh57 => ?_))))))))
      obtain ⟨rfl, hA⟩ := zh57
      refine (g_ri rfl rfl rfl ?_)
      exact ⟨rfl, hA⟩
    · subst e
      rw [if_neg (by decide), if_neg (by decide), if_pos (by decide)]
      refine g_tin (off := 50) (tgt := 51) rfl (by decide) (by decide) (by decide) (by decide) (g_ld rfl rfl rfl (g_ld rfl rfl rfl (g_ld rfl rfl rfl (g_ld rfl rfl rfl (g_c rfl rfl (g_bin rfl rfl (g_cv rfl (s_addsOf h hm hc hj (p := 1) (by omega) rfl) (by omega) rfl rfl rfl rfl rfl rfl rfl rfl rfl (fun zv57 zS57 zh57 => ?_))))))))
      obtain ⟨rfl, hA⟩ := zh57
      refine (g_ri rfl rfl rfl ?_)
      exact ⟨rfl, hA⟩
    · subst e
      obtain ⟨st, t1, t2, t3⟩ := h.2.2.1.2.2.2.2.2 c j hc hj
      rw [if_neg (by decide), if_neg (by decide), if_neg (by decide), if_pos (by decide)]
      refine g_tin (off := 60) (tgt := 61) rfl (by decide) (by decide) (by decide) (by decide) (g_ld rfl rfl rfl (g_ld rfl rfl rfl (g_gr rfl rfl rfl rfl rfl (g_ld rfl rfl rfl (g_gr rfl rfl rfl rfl rfl (g_c rfl rfl (g_ld rfl rfl rfl (g_bin rfl rfl (g_ld rfl rfl rfl (g_bin rfl rfl (g_c rfl rfl (g_bin rfl rfl (g_ald rfl rfl rfl ?_ ?_)))))))))))))
      · rw [e4, ← nI_succ]; exact vp_in_nI (show 4 * c + j + 1 < 16 by omega) (by decide)
      · refine (g_cv rfl (s_lengthOf (N := 90) (c := c) h.2.2.1 hW rfl rfl (by decide) hty.1 hty.2.1 hty.2.2 t2 t3 (by rw [e4, ← nI_succ, nI_clamp (by omega)]; exact t1)) (by omega) rfl rfl rfl rfl rfl rfl rfl rfl rfl (z_k1 ?_))
        refine (g_ri rfl rfl rfl ?_)
        exact ⟨rfl, Am.rf⟩
    · subst e
      rw [if_neg (by decide), if_neg (by decide), if_neg (by decide), if_neg (by decide), if_pos (by decide)]
      refine g_tin (off := 81) (tgt := 82) rfl (by decide) (by decide) (by decide) (by decide) (g_ld rfl rfl rfl (g_ld rfl rfl rfl (g_ld rfl rfl rfl (g_cv rfl (s_sortsOfM h hm (by omega) (by omega)) (by omega) rfl rfl rfl rfl rfl rfl rfl rfl rfl (z_k1 (g_ri rfl rfl rfl ?_))))))
      exact ⟨rfl, Am.rf⟩
    · subst e
      rw [if_neg (by decide), if_neg (by decide), if_neg (by decide), if_neg (by decide), if_neg (by decide), if_pos (by decide)]
      refine g_tin (off := 88) (tgt := 89) rfl (by decide) (by decide) (by decide) (by decide) (g_ld rfl rfl rfl (g_ld rfl rfl rfl (g_ld rfl rfl rfl (g_cv rfl (s_askOf h hm (by omega) (by omega)) (by omega) rfl rfl rfl rfl rfl rfl rfl rfl rfl (z_k1 (g_ri rfl rfl rfl ?_))))))
      exact ⟨rfl, Am.rf⟩
  · have hne : ∀ k : Int32, 0 ≤ k → k < 6 → ¬ z = k := fun k h1 h2 e => hy (by rw [e]; exact ⟨h1, h2⟩)
    rw [if_neg (hne 0 (by decide) (by decide)), if_neg (hne 1 (by decide) (by decide)), if_neg (hne 2 (by decide) (by decide)), if_neg (hne 3 (by decide) (by decide)), if_neg (hne 4 (by decide) (by decide)), if_neg (hne 5 (by decide) (by decide))]
    have ho : z.toInt < 0 ∨ 5 < z.toInt := by
      rw [Int32.le_iff_toInt_le, Int32.lt_iff_toInt_lt] at hy
      have e0 : (0 : Int32).toInt = 0 := by decide
      have e6 : (6 : Int32).toInt = 6 := by decide
      omega
    refine g_tout (tgt := 96) rfl ho (by decide) (g_c rfl rfl (g_ri rfl rfl rfl ?_))
    exact ⟨rfl, Am.rf⟩
theorem y_member (h : InvM S m) (hm : MOk m) : Sp (l, wM, D, ad, cA) 5 m_M_member [.ref 0, .int x, .int y, .int z] S (fun v S' => v = .int (v_member m x y z) ∧ InvM S' m) := by
  refine Sp.of dk_M_member ok_M_member rfl (g_ld rfl rfl rfl (g_ld rfl rfl rfl (g_ld rfl rfl rfl (g_cv rfl (s_isMemberOf h hm) (by omega) rfl rfl rfl rfl rfl rfl rfl rfl rfl (z_k1 (g_if rfl rfl (fun zc6 => (g_c rfl rfl (g_ri rfl rfl rfl ?_))) (fun zc6 => ?_)))))))
  · have a := b2_0.mp zc6
    unfold v_member
    rw [if_neg a]
    exact ⟨rfl, h⟩
  · have a := b2_n.mp zc6
    obtain ⟨c, j, hc, hc4, hj, hj3, rfl, rfl, -, -, -⟩ := kd_at h hm a
    refine (g_ld rfl rfl rfl (g_ld rfl rfl rfl (g_ld rfl rfl rfl (g_ld rfl rfl rfl (g_cv rfl (s_tellMember h hm hc hj) (by omega) rfl rfl rfl rfl rfl rfl rfl rfl rfl (fun zv13 zS13 zh13 => ?_))))))
    obtain ⟨rfl, hA⟩ := zh13
    refine (g_go rfl (g_ri rfl rfl rfl ?_))
    exact ⟨rfl, h.sc hA.sc⟩
end
