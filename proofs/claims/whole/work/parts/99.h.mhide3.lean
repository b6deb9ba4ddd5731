/-! the reference: hide -/
section
variable {l : Launch} {D : va_G} {ad : Nat → Nat} {cA : ClassId} {x y z w : Int32} {S S' S0 : zS} {m : Mt} {B : Bk} {V : Nat → Nat} {n p k r c j s o b i N q mny : Nat} {t : Int32}
theorem gP_in (hm : MOk m) (hx : 0 ≤ x ∧ x < nI (bN (mB m))) : ∃ c, c < bN (mB m) ∧ x = nI c ∧ gP m x = nI (bP (mB m) c) := by
  have h4 := hm.2.2.1.1
  obtain ⟨c, hc, e1, e2⟩ := in_cl (n := bN (mB m)) hx.1 hx.2 (by omega)
  refine ⟨c, hc, e1, ?_⟩
  unfold gP
  rw [e1, if_pos (in4 (by omega)), nI_clamp (by omega)]
theorem gP_out (hm : MOk m) (hx : ¬ (0 ≤ x ∧ x < nI (bN (mB m)))) : gP m x = 0 := by
  have h4 := hm.2.2.1.1
  unfold gP
  by_cases hx4 : 0 ≤ x ∧ x < 4
  · rw [if_pos hx4]
    obtain ⟨c, hc, e1, e2⟩ := in_cl (n := 4) hx4.1 hx4.2
    rw [e2, (hm.2.2.1.2.2.1 c (Nat.le_of_not_lt (fun q => hx ⟨hx4.1, by rw [e1]; exact nI_lt q (by omega)⟩))).1]
    rfl
  · rw [if_neg hx4]
theorem y_hide (h : InvM S m) (hm : MOk m) : Sp (l, wM, D, ad, cA) 7 m_M_hide [.ref 0, .int x, .int y, .int z, .int w] S (fun v S' => v = .int (v_hide m x y z w) ∧ InvM S' (m_hide m x y z w)) := by
  have hW := hm.2.2.1
  have h4 := hW.1
  have hH : S.1 0 32 = nI (mH m) := h.2.2.2.2.2.2.2.2
  have h12 : mH m ≤ 12 := hm.2.2.2.2.2.2
  unfold v_hide m_hide
  refine Sp.of dk_M_hide ok_M_hide rfl (g_ld rfl rfl rfl (g_ld rfl rfl rfl (g_cv rfl (s_isClassM h.2.2.1.1 h4) (by omega) rfl rfl rfl rfl rfl rfl rfl rfl rfl (z_k1 ?_))))
  by_cases hcl : 0 ≤ x ∧ x < nI (bN (mB m))
  · obtain ⟨c, hc, ex, egP⟩ := gP_in hm hcl
    have hP2 := hW.2.1 c
    rw [b2_t hcl]
    have rP : S.1 6 x.toNatClampNeg = nI (bP (mB m) c) := by rw [ex, nI_clamp (by omega)]; exact h.2.2.1.2.1 c hc
    refine (g_if rfl rfl (fun zc5 => ?_) (fun zc5 => ?_))
    · exact absurd zc5 (by decide)
    · refine (g_ld rfl rfl rfl (g_un rfl rfl (g_c rfl rfl (g_ld rfl rfl rfl (g_gr rfl rfl rfl rfl rfl (g_ld rfl rfl rfl (g_ald rfl rfl rfl ?_ (g_c rfl rfl (g_bin rfl rfl (g_un rfl rfl (g_cs rfl (s_inE (lo := 0) (hi := S.1 6 x.toNatClampNeg - 1) rfl rfl) (by omega) rfl rfl rfl rfl rfl rfl (z_k1 ?_))))))))))))
      · rw [ex]; exact vp_in_nI (show c < 4 by omega) (by decide)
      · rw [rP, b2_iff (le_pred (k := bP (mB m) c) (by omega)), egP]
        refine (g_if rfl rfl (fun zc23 => ?_) (fun zc23 => (g_c rfl rfl (g_ri rfl rfl rfl ?_))))
        · have a := b2_n.mp zc23
          rw [if_pos a, if_pos a]
          obtain ⟨p, hp, ey, ey2⟩ := in_cl (x := y) (n := bP (mB m) c) a.1 a.2 (by omega)
          refine (g_ld rfl rfl rfl (g_un rfl rfl (g_c rfl rfl (g_c rfl rfl (g_cs rfl (s_inE (lo := 1) (hi := 2) rfl rfl) (by omega) rfl rfl rfl rfl rfl rfl (z_k1 ?_))))))
          refine (g_if rfl rfl (fun zc38 => (g_c rfl rfl (g_ri rfl rfl rfl ?_))) (fun zc38 => ?_))
          · have b := b2_0.mp zc38
            have b' : ¬ hdOk z w := fun q => b ⟨q.1, q.2.1⟩
            rw [if_neg b', if_neg b']
            exact ⟨rfl, h⟩
          · have b1 := b2_n.mp zc38
            refine (g_ld rfl rfl rfl (g_un rfl rfl (g_c rfl rfl (g_c rfl rfl (g_cs rfl (s_inE (lo := 0) (hi := 1) rfl rfl) (by omega) rfl rfl rfl rfl rfl rfl (z_k1 ?_))))))
            refine (g_if rfl rfl (fun zc49 => ?_) (fun zc49 => (g_c rfl rfl (g_ri rfl rfl rfl ?_))))
            · have b2v := b2_n.mp zc49
              have b' : hdOk z w := ⟨b1.1, b1.2, b2v.1, b2v.2⟩
              rw [if_pos b', if_pos b']
              refine (g_ld rfl rfl rfl (g_gi rfl rfl rfl rfl rfl (g_c rfl rfl (g_if rfl rfl (fun zc61 => ?_) (fun zc61 => (g_c rfl rfl (g_ri rfl rfl rfl ?_)))))))
              · rw [hH] at zc61
                have hlt : mH m < 12 := by
                  have : ¬ mH m = 12 := fun e => zc61 (by rw [e]; rfl)
                  omega
                rw [if_pos hlt, if_pos hlt]
                have hm1 := did_ok hm hlt
                have hI1 : InvM (z_ui S 0 32 (nI (mH m) + 1)) (m_did m) := did_invM h
                refine (g_ld rfl rfl rfl (g_dup rfl rfl (g_gi rfl rfl rfl rfl rfl (g_c rfl rfl (g_bin rfl rfl (g_pi rfl rfl rfl rfl rfl rfl rfl (g_ld rfl rfl rfl (g_c rfl rfl (g_ld rfl rfl rfl (g_bin rfl rfl (g_ld rfl rfl rfl (g_bin rfl rfl (g_ld rfl rfl rfl ?_)))))))))))))
                rw [hH, ex, ey, e2m]
                refine (g_cv rfl (s_hideOf hI1 hm1 (q := 2 * c + p) (by omega)) (by omega) rfl rfl rfl rfl rfl rfl rfl rfl rfl (fun zv84 zS84 zh84 => ?_))
                obtain ⟨rr, rfl, hlex, hI2⟩ := zh84
                have er : rr = hdF m x y z := by
                  have := hide_eq hm1 (c := c) (p := p) hlex
                  rw [this]
                  unfold hdF
                  rw [ex, nI_clamp (by omega), ey2]
                rw [← ex, ← ey, ← er]
                refine (g_st rfl rfl rfl rfl rfl (g_ld rfl rfl rfl (g_c rfl rfl (g_if rfl rfl (fun zc92 => (g_ld rfl rfl rfl (g_go rfl (g_ri rfl rfl rfl ?_)))) (fun zc92 => (g_ld rfl rfl rfl (g_c rfl rfl (g_if rfl rfl (fun zc98 => ?_) (fun zc98 => (g_ld rfl rfl rfl (g_go rfl (g_ri rfl rfl rfl ?_))))))))))))
                · rw [if_pos zc92]; rw [zc92]; exact ⟨rfl, hI2⟩
                · have hw0 : w = 0 := by
                    have q1 := Int32.le_iff_toInt_le.mp b2v.1
                    have q2 := Int32.le_iff_toInt_le.mp b2v.2
                    have e0 : (0 : Int32).toInt = 0 := by decide
                    have e1 : (1 : Int32).toInt = 1 := by decide
                    have hne : w.toInt ≠ 1 := fun z => zc98 (Int32.toInt_inj.mp (by rw [e1]; exact z))
                    exact Int32.toInt_inj.mp (by rw [e0]; omega)
                  rcases hlex with ⟨g, -⟩ | ⟨a, ha, g, -, -, -⟩
                  · exact absurd g zc92
                  · rw [if_neg zc92, if_pos hw0]
                    refine (g_ld rfl rfl rfl (g_cs rfl (s_ones ha g) (by omega) rfl rfl rfl rfl rfl rfl (z_k1 ?_)))
                    refine (g_ri rfl rfl rfl ?_)
                    rw [g]
                    exact ⟨rfl, hI2⟩
                · have hw1 : ¬ w = 0 := fun e => by
                    have := Decidable.not_not.mp zc98
                    rw [e] at this
                    exact absurd this (by decide)
                  rw [if_neg zc92, if_neg hw1]
                  exact ⟨rfl, hI2⟩
              · rw [hH] at zc61
                have hn : ¬ mH m < 12 := fun g => by
                  have := eq_n (b := 12) (Decidable.not_not.mp zc61)
                  omega
                rw [if_neg hn, if_neg hn]
                exact ⟨rfl, h⟩
            · have b2v := b2_0.mp (Decidable.not_not.mp zc49)
              have b' : ¬ hdOk z w := fun q => b2v ⟨q.2.2.1, q.2.2.2⟩
              rw [if_neg b', if_neg b']
              exact ⟨rfl, h⟩
        · have a := b2_0.mp (Decidable.not_not.mp zc23)
          rw [if_neg a, if_neg a]
          exact ⟨rfl, h⟩
  · rw [b2_f hcl, gP_out hm hcl]
    have hn : ¬ ((0 : Int32) ≤ y ∧ y < 0) := fun q => absurd (Int32.lt_of_le_of_lt q.1 q.2) (by decide)
    rw [if_neg hn, if_neg hn]
    refine (g_if rfl rfl (fun zc5 => ?_) (fun zc5 => ?_))
    · refine (g_c rfl rfl (g_ri rfl rfl rfl ?_))
      exact ⟨rfl, h⟩
    · exact absurd rfl zc5
end
