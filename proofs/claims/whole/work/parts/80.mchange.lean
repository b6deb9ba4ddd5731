/-! the reference: change, restore -/
section
variable {l : Launch} {D : va_G} {ad : Nat → Nat} {cA : ClassId} {x y z w : Int32} {S S' S0 : zS} {m : Mt} {B : Bk} {V F kd : Nat → Nat} {n p k r q t : Nat}
theorem in04 {x : Int32} : (0 ≤ x ∧ x ≤ 4) ↔ (0 ≤ x ∧ x < 5) := by
  have := le_pred (x := x) (k := 5) (by omega)
  rw [show nI 5 - 1 = (4 : Int32) by decide] at this
  exact this
theorem y_change (h : InvM S m) (hm : MOk m) : Sp (l, wM, D, ad, cA) 5 m_M_change [.ref 0, .int x, .int y, .int z] S (fun v S' => v = .int (v_change m x y z) ∧ InvM S' (m_change m x y z)) := by
  unfold v_change m_change
  refine Sp.of dk_M_change ok_M_change rfl (g_ld rfl rfl rfl (g_ld rfl rfl rfl (g_ld rfl rfl rfl (g_cv rfl (s_isMemberOf h hm) (by omega) rfl rfl rfl rfl rfl rfl rfl rfl rfl (z_k1 (g_if rfl rfl (fun zc6 => (g_ld rfl rfl rfl (g_un rfl rfl (g_c rfl rfl (g_c rfl rfl (g_cs rfl (s_inE (lo := 0) (hi := 4) rfl rfl) (by omega) rfl rfl rfl rfl rfl rfl (z_k1 (g_if rfl rfl (fun zc21 => ?_) (fun zc21 => (g_c rfl rfl (g_ri rfl rfl rfl ?_))))))))))) (fun zc6 => (g_c rfl rfl (g_ri rfl rfl rfl ?_)))))))))
  · have a := b2_n.mp zc6
    have b := b2_n.mp zc21
    rw [if_pos a, if_pos a, if_pos b, if_pos b]
    obtain ⟨c, j, hc, hc4, hj, hj3, e1, e2, e3, e5, e6⟩ := kd_at h hm a
    obtain ⟨k, hk5', ek, ek2⟩ := in_cl (x := z) (n := 5) b.1 (in04.mp b).2
    have e7 : (3 * x + y).toNatClampNeg = 3 * c + j := by rw [e1, e2, show (3 : Int32) = nI 3 from rfl, pk_mul, nI_add, nI_clamp (by omega)]
    rw [e7, ek2]
    refine (g_ld rfl rfl rfl (g_gr rfl rfl rfl rfl rfl (g_c rfl rfl (g_ld rfl rfl rfl (g_bin rfl rfl (g_ld rfl rfl rfl (g_bin rfl rfl (g_ald rfl rfl rfl ?_ (g_st rfl rfl rfl rfl rfl (g_ld rfl rfl rfl (g_gr rfl rfl rfl rfl rfl (g_c rfl rfl (g_ld rfl rfl rfl (g_bin rfl rfl (g_ld rfl rfl rfl (g_bin rfl rfl (g_ld rfl rfl rfl (g_ast rfl rfl rfl ?_ ?_))))))))))))))))))
    · rw [e3]; exact vp_in_nI (show 4 * c + j < 16 by omega) (by decide)
    · rw [e3]; exact vp_in_nI (show 4 * c + j < 16 by omega) (by decide)
    · rw [e5, e3, nI_clamp (by omega)]
      have hA1 : Am [11] [] S (z_ui S 11 (4 * c + j) z) := Am.rf.ui (by decide) (by decide)
      have hB2 : BkM (z_ui S 11 (4 * c + j) z) (mB m) := h.2.2.1.ag (hA1.2.1 _ (by decide)) (hA1.1 _ (by decide) (by decide)) (hA1.1 _ (by decide) (by decide)) (hA1.1 _ (by decide) (by decide)) (hA1.1 _ (by decide) (by decide)) (hA1.1 _ (by decide) (by decide))
      have hk5 : ∀ p, upN (mK m) (3 * c + j) k p < 5 := fun p => by
        unfold upN
        split
        · omega
        · exact hm.2.2.2.1.1 p
      have hK2 : KdM (z_ui S 11 (4 * c + j) z) 11 (mB m) (upN (mK m) (3 * c + j) k) := fun c' j' hc' hj' => by
        have h3 := hm.2.2.1.2.2.2.1 c'
        rw [ui_at]
        unfold upN
        by_cases g : 4 * c' + j' = 4 * c + j
        · rw [if_pos (by omega), g, pk_us]; exact ek
        · rw [if_neg (by omega), pk_un g]; exact h.2.2.2.1.1 c' j' hc' hj'
      refine (g_ld rfl rfl rfl (g_cv rfl (s_layWays hB2 hm.2.2.1 hK2 hk5) (by omega) rfl rfl rfl rfl rfl rfl rfl rfl rfl (fun zv51 zS51 zh51 => ?_)))
      obtain ⟨rfl, hA2, hw, hr⟩ := zh51
      refine (g_ld rfl rfl rfl (g_ri rfl rfl rfl ?_))
      have hA3 : Am [11, 14, 15, 16] [22, 24, 25] S zS51 := (hA1.mono (by simp) (by simp)).tr (hA2.mono (by simp +contextual) (by simp))
      refine ⟨rfl, ?_⟩
      have hsc : InvM S m := h
      obtain ⟨h1, h2, h3, h4, h5, h6, h7, h8, h9⟩ := h
      refine ⟨by rw [hA3.2.1 1 (by decide)]; exact h1, by rw [hA3.1 1 (by decide) (by decide)]; exact h2, h3.ag (hA3.2.1 _ (by decide)) (hA3.1 _ (by decide) (by decide)) (hA3.1 _ (by decide) (by decide)) (hA3.1 _ (by decide) (by decide)) (hA3.1 _ (by decide) (by decide)) (hA3.1 _ (by decide) (by decide)), ⟨?_, ?_, ?_, ?_⟩, hw, hr, ?_, by rw [hA3.2.1 11 (by decide)]; exact h8, by rw [hA3.2.1 32 (by decide)]; exact h9⟩
      · unfold KdM
        rw [hA2.1 11 (by decide) (by decide)]
        exact hK2
      · rw [hA3.1 12 (by decide) (by decide), hA3.1 13 (by decide) (by decide)]
        exact h4.2.1
      · rw [hA3.2.1 34 (by decide)]
        exact h4.2.2.1
      · rw [hA3.1 22 (by decide) (by decide)]
        exact h4.2.2.2
      · show match mI m with
        | none => zS51.1 0 37 = -1 ∨ ∃ r, r < mR m ∧ zS51.1 0 37 = nI r
        | some k => zS51.1 0 37 = nI (mR m) ∧ KpM zS51 (mB m) 23 24 25 26 (zS51.1 0 38) k
        rw [hA3.2.1 37 (by decide)]
        cases hI : mI m with
        | none => rw [hI] at h7; exact h7
        | some k =>
          rw [hI] at h7
          exact ⟨h7.1, h7.2.ag (hA3.1 _ (by decide) (by decide)) (hA3.1 _ (by decide) (by decide)) (hA3.1 _ (by decide) (by decide)) (hA3.1 _ (by decide) (by decide)) (hA3.2.1 _ (by decide))⟩
  · have a := b2_n.mp zc6
    have b := b2_0.mp (Decidable.not_not.mp zc21)
    rw [if_pos a, if_pos a, if_neg b, if_neg b]
    exact ⟨rfl, h⟩
  · have a := b2_0.mp (Decidable.not_not.mp zc6)
    rw [if_neg a, if_neg a]
    exact ⟨rfl, h⟩
theorem y_restore (h : InvM S m) (hm : MOk m) : Sp (l, wM, D, ad, cA) 5 m_M_restore [.ref 0] S (fun v S' => v = .int (v_restore m) ∧ InvM S' (m_restore m)) := by
  have hR := hm.2.2.2.2.2.1
  unfold v_restore m_restore
  have h7 := h.2.2.2.2.2.2.1
  have h8 := h.2.2.2.2.2.2.2.1
  cases hI : mI m with
  | none =>
    rw [hI] at h7
    refine Sp.of dk_M_restore ok_M_restore rfl (g_ld rfl rfl rfl (g_gi rfl rfl rfl rfl rfl (g_ld rfl rfl rfl (g_gi rfl rfl rfl rfl rfl (g_if rfl rfl (fun zc8 => ?_) (fun zc8 => (g_c rfl rfl (g_ri rfl rfl rfl ?_))))))))
    · exfalso
      rw [h8] at zc8
      rcases h7 with g | ⟨r, g1, g2⟩
      · rw [g] at zc8
        have : ∀ n, n ≤ 4096 → (-1 : Int32) ≠ nI n := by
          intro n hn e
          have := congrArg Int32.toInt e
          rw [show (nI n).toInt = (n : Int) from nI_toInt (by omega)] at this
          have e1 : (-1 : Int32).toInt = -1 := by decide
          omega
        exact this _ hR zc8
      · rw [g2] at zc8
        have := eq_n zc8
        omega
    · exact ⟨rfl, h⟩
  | some kp =>
    rw [hI] at h7
    obtain ⟨hkp, hn0⟩ := hm.2.2.2.2.1 kp hI
    refine Sp.of dk_M_restore ok_M_restore rfl (g_ld rfl rfl rfl (g_gi rfl rfl rfl rfl rfl (g_ld rfl rfl rfl (g_gi rfl rfl rfl rfl rfl (g_if rfl rfl (fun zc8 => ?_) (fun zc8 => (g_c rfl rfl (g_ri rfl rfl rfl ?_))))))))
    · refine (g_ld rfl rfl rfl (g_gr rfl rfl rfl rfl rfl (g_ld rfl rfl rfl (g_gr rfl rfl rfl rfl rfl (g_cs rfl (s_copyM (N := 16) rfl rfl rfl rfl (by decide) (by decide)) (by omega) rfl rfl rfl rfl rfl rfl (fun zv22 zS22 zh22 => ?_))))))
      obtain ⟨rfl, h1⟩ := zh22
      refine (g_ld rfl rfl rfl (g_gr rfl rfl rfl rfl rfl (g_ld rfl rfl rfl (g_gr rfl rfl rfl rfl rfl (g_cs rfl (s_copyM (N := 8) rfl rfl rfl rfl (by decide) (by decide)) (by omega) rfl rfl rfl rfl rfl rfl (fun zv33 zS33 zh33 => ?_))))))
      obtain ⟨rfl, h2⟩ := zh33
      refine (g_ld rfl rfl rfl (g_gr rfl rfl rfl rfl rfl (g_ld rfl rfl rfl (g_gr rfl rfl rfl rfl rfl (g_cs rfl (s_copyM (N := 128) rfl rfl rfl rfl (by decide) (by decide)) (by omega) rfl rfl rfl rfl rfl rfl (fun zv44 zS44 zh44 => ?_))))))
      obtain ⟨rfl, h3⟩ := zh44
      refine (g_ld rfl rfl rfl (g_gr rfl rfl rfl rfl rfl (g_ld rfl rfl rfl (g_gr rfl rfl rfl rfl rfl (g_cs rfl (s_copyM (N := 24) rfl rfl rfl rfl (by decide) (by decide)) (by omega) rfl rfl rfl rfl rfl rfl (fun zv55 zS55 zh55 => ?_))))))
      obtain ⟨rfl, h5⟩ := zh55
      refine (g_ld rfl rfl rfl (g_ld rfl rfl rfl (g_gi rfl rfl rfl rfl rfl (g_pi rfl rfl rfl rfl rfl rfl rfl ?_))))
      have hA : Am [11, 12, 13, 22] [] S zS55 := by
        subst h5
        subst h3
        subst h2
        subst h1
        exact (((Am.rf.uf (by decide) (by decide)).uf (by decide) (by decide)).uf (by decide) (by decide)).uf (by decide) (by decide)
      have a1 : ∀ i, i < 16 → zS55.1 11 i = S.1 23 i := fun i hi => by rw [h5, uf_ne (by decide), h3, uf_ne (by decide), h2, uf_ne (by decide), h1, uf_at, cpyF_at hi]
      have a2 : ∀ i, i < 8 → zS55.1 12 i = S.1 24 i := fun i hi => by rw [h5, uf_ne (by decide), h3, uf_ne (by decide), h2, uf_at, cpyF_at hi, h1, uf_ne (by decide)]
      have a3 : ∀ i, i < 128 → zS55.1 13 i = S.1 25 i := fun i hi => by rw [h5, uf_ne (by decide), h3, uf_at, cpyF_at hi, h2, uf_ne (by decide), h1, uf_ne (by decide)]
      have a4 : ∀ i, i < 24 → zS55.1 22 i = S.1 26 i := fun i hi => by rw [h5, uf_at, cpyF_at hi, h3, uf_ne (by decide), h2, uf_ne (by decide), h1, uf_ne (by decide)]
      have f38 : zS55.1 0 38 = S.1 0 38 := hA.2.1 38 (by decide)
      rw [f38]
      have hA2 : Am [11, 12, 13, 22] [34] S (z_ui zS55 0 34 (S.1 0 38)) := (hA.mono (by simp) (by simp)).fd (by decide)
      have hB2 : BkM (z_ui zS55 0 34 (S.1 0 38)) (mB m) := h.2.2.1.ag (hA2.2.1 _ (by decide)) (hA2.1 _ (by decide) (by decide)) (hA2.1 _ (by decide) (by decide)) (hA2.1 _ (by decide) (by decide)) (hA2.1 _ (by decide) (by decide)) (hA2.1 _ (by decide) (by decide))
      have hKp : KpM (z_ui zS55 0 34 (S.1 0 38)) (mB m) 11 12 13 22 ((z_ui zS55 0 34 (S.1 0 38)).1 0 34) kp := by
        refine KpM.cp h7.2 hm.2.2.1.1 hm.2.2.1.2.2.2.1 hkp.l15 hkp.2.2.1 (fun i hi => ?_) (fun i hi => ?_) (fun i hi => ?_) (fun i hi => ?_) ?_
        · rw [ui_ne (by decide)]; exact a1 i hi
        · rw [ui_ne (by decide)]; exact a2 i hi
        · rw [ui_ne (by decide)]; exact a3 i hi
        · rw [ui_ne (by decide)]; exact a4 i hi
        · rw [ui_at, pk_us]
      refine (g_ld rfl rfl rfl (g_cv rfl (s_layWays hB2 hm.2.2.1 hKp.1 hkp.1) (by omega) rfl rfl rfl rfl rfl rfl rfl rfl rfl (fun zv67 zS67 zh67 => ?_)))
      obtain ⟨rfl, hA3, hw, hr⟩ := zh67
      have hA4 : Am [11, 12, 13, 14, 15, 16, 22] [22, 24, 25, 34] S zS67 := (hA2.mono (by simp +contextual) (by simp)).tr (hA3.mono (by simp +contextual) (by simp +contextual))
      have hI2 : InvM zS67 (m_now m kp) := by
        obtain ⟨g1, g2, g3, g4, g5, g6, g7, g8, g9⟩ := h
        refine ⟨by rw [hA4.2.1 1 (by decide)]; exact g1, by rw [hA4.1 1 (by decide) (by decide)]; exact g2, g3.ag (hA4.2.1 _ (by decide)) (hA4.1 _ (by decide) (by decide)) (hA4.1 _ (by decide) (by decide)) (hA4.1 _ (by decide) (by decide)) (hA4.1 _ (by decide) (by decide)) (hA4.1 _ (by decide) (by decide)), hKp.ag (hA3.1 _ (by decide) (by decide)) (hA3.1 _ (by decide) (by decide)) (hA3.1 _ (by decide) (by decide)) (hA3.1 _ (by decide) (by decide)) (hA3.2.1 _ (by decide)), hw, hr, ?_, by rw [hA4.2.1 11 (by decide)]; exact g8, by rw [hA4.2.1 32 (by decide)]; exact g9⟩
        show match mI m with
        | none => zS67.1 0 37 = -1 ∨ ∃ r, r < mR m ∧ zS67.1 0 37 = nI r
        | some k => zS67.1 0 37 = nI (mR m) ∧ KpM zS67 (mB m) 23 24 25 26 (zS67.1 0 38) k
        rw [hA4.2.1 37 (by decide), hI]
        exact ⟨h7.1, h7.2.ag (hA4.1 _ (by decide) (by decide)) (hA4.1 _ (by decide) (by decide)) (hA4.1 _ (by decide) (by decide)) (hA4.1 _ (by decide) (by decide)) (hA4.2.1 _ (by decide))⟩
      have hm2 : MOk (m_now m kp) := ⟨hm.1, hm.2.1, hm.2.2.1, hkp, hm.2.2.2.2.1, hm.2.2.2.2.2⟩
      have hI := hI2
      refine (g_ld rfl rfl rfl (g_cv rfl (s_slotsUsed hI hm2) (by omega) rfl rfl rfl rfl rfl rfl rfl rfl rfl (z_k1 (g_ri rfl rfl rfl ?_))))
      exact ⟨rfl, hI2⟩
    · exact absurd (by rw [h7.1, h8]) zc8
end
