/-! hide -/
def m_did (m : Mt) : Mt := (mP m, mB m, mN m, mI m, mR m, mH m + 1)
abbrev hdOk (z w : Int32) : Prop := 1 ≤ z ∧ z ≤ 2 ∧ 0 ≤ w ∧ w ≤ 1
noncomputable def hdF (m : Mt) (x y z : Int32) : Int32 := ftH (m_did m) x.toNatClampNeg y.toNatClampNeg z (mtA (m_did m) 12) 4096 0 (-1) 4
noncomputable def v_hide (m : Mt) (x y z w : Int32) : Int32 := if 0 ≤ y ∧ y < gP m x then (if hdOk z w then (if mH m < 12 then (if hdF m x y z = -1 then -1 else if w = 0 then f_bc (hdF m x y z) else hdF m x y z) else -103) else -102) else -101
def m_hide (m : Mt) (x y z w : Int32) : Mt := if 0 ≤ y ∧ y < gP m x then (if hdOk z w then (if mH m < 12 then m_did m else m) else m) else m
section
variable {l : Launch} {D : va_G} {ad : Nat → Nat} {cA : ClassId} {x y z w : Int32} {S S' : zS} {m : Mt}
theorem par_in (hm : MOk m) (h : 0 ≤ y ∧ y < gP m x) : ∃ c p, c < 4 ∧ p < 2 ∧ x = nI c ∧ y = nI p ∧ x.toNatClampNeg = c ∧ y.toNatClampNeg = p := by
  have hW := hm.2.2.1
  unfold gP at h
  by_cases hx : 0 ≤ x ∧ x < 4
  · rw [if_pos hx] at h
    obtain ⟨c, hc, e1, e2⟩ := in_cl (n := 4) hx.1 hx.2
    rw [e2] at h
    have h3 := hW.2.1 c
    obtain ⟨j, hj, f1, f2⟩ := in_cl (x := y) (n := bP (mB m) c) h.1 h.2 (by omega)
    exact ⟨c, j, hc, by omega, e1, f1, e2, f2⟩
  · rw [if_neg hx] at h
    exact absurd (Int32.lt_of_le_of_lt h.1 h.2) (by decide)
theorem did_ok (hm : MOk m) (h : mH m < 12) : MOk (m_did m) := ⟨hm.1, hm.2.1, hm.2.2.1, hm.2.2.2.1, hm.2.2.2.2.1, hm.2.2.2.2.2.1, h⟩
theorem did_inv (h : InvX S m) : InvX (z_ui S 0 13 (nI (mH m) + 1)) (m_did m) := by
  obtain ⟨h1, h2, h3, h4, h5, h6, h7, h8, h9, h10, h11⟩ := h
  have kA : ∀ k, k ≠ 0 → (z_ui S 0 13 (nI (mH m) + 1)).1 k = S.1 k := fun k g => ui_ne g
  have k0 : ∀ j, j ≠ 13 → (z_ui S 0 13 (nI (mH m) + 1)).1 0 j = S.1 0 j := fun j hj => by rw [ui_at, pk_un hj]
  refine ⟨by rw [kA _ (by decide)]; exact h1, by rw [kA _ (by decide)]; exact h2, h3.ag (fun k _ _ => kA k (by omega)), ?_, h5.ag (kA _ (by decide)), by rw [kA _ (by decide)]; exact h6, by rw [kA _ (by decide)]; exact h7, by rw [k0 _ (by decide)]; exact h8, fun k hk => ?_, by rw [k0 _ (by decide)]; exact h10, by rw [ui_at, pk_us, ← nI_succ]; rfl⟩
  · unfold KpX at h4 ⊢
    rw [kA _ (by decide), kA _ (by decide), kA _ (by decide), kA _ (by decide), kA _ (by decide), kA _ (by decide)]
    exact h4
  · have := h9 k hk
    unfold KpX at this ⊢
    rw [kA _ (by decide), kA _ (by decide), kA _ (by decide), kA _ (by decide), kA _ (by decide), kA _ (by decide)]
    exact this
theorem x_hide (h : InvX S m) (hm : MOk m) : Sp (l, wX, D, ad, cA) 7 m_SB_hide [.ref 0, .int x, .int y, .int z, .int w] S (fun v S' => v = .int (v_hide m x y z w) ∧ InvX S' (m_hide m x y z w)) := by
  have hP := gP_eq (m := m) h.2.2.1 x
  have hH : S.1 0 13 = nI (mH m) := h.2.2.2.2.2.2.2.2.2.2
  have h12 : mH m ≤ 12 := hm.2.2.2.2.2.2
  unfold v_hide m_hide
  refine Sp.of dk_SB_hide ok_SB_hide rfl (g_ld rfl rfl rfl (g_gr rfl rfl rfl rfl rfl (g_ld rfl rfl rfl (g_ld rfl rfl rfl (g_cv rfl (s_hasParameter (by decide)) (by omega) rfl rfl rfl rfl rfl rfl rfl rfl rfl (z_k1 (g_if rfl rfl (fun zc9 => (g_ld rfl rfl rfl (g_c rfl rfl (g_if rfl rfl (fun zc17 => (g_c rfl rfl (g_ri rfl rfl rfl ?_))) (fun zc17 => (g_ld rfl rfl rfl (g_c rfl rfl (g_if rfl rfl (fun zc22 => (g_c rfl rfl (g_ri rfl rfl rfl ?_))) (fun zc22 => (g_ld rfl rfl rfl (g_if rfl rfl (fun zc27 => (g_c rfl rfl (g_ri rfl rfl rfl ?_))) (fun zc27 => (g_ld rfl rfl rfl (g_c rfl rfl (g_if rfl rfl (fun zc33 => (g_ld rfl rfl rfl (g_gi rfl rfl rfl rfl rfl (g_c rfl rfl (g_if rfl rfl (fun zc45 => ?_) (fun zc45 => (g_c rfl rfl (g_ri rfl rfl rfl ?_)))))))) (fun zc33 => (g_c rfl rfl (g_ri rfl rfl rfl ?_)))))))))))))))))) (fun zc9 => (g_c rfl rfl (g_ri rfl rfl rfl ?_))))))))))
  · have a := b2_n.mp zc9
    rw [hP] at a
    have b : ¬ hdOk z w := fun q => absurd q.1 (Int32.not_le.mpr zc17)
    rw [if_pos a, if_pos a, if_neg b, if_neg b]; exact ⟨rfl, h⟩
  · have a := b2_n.mp zc9
    rw [hP] at a
    have b : ¬ hdOk z w := fun q => absurd q.2.1 (Int32.not_le.mpr zc22)
    rw [if_pos a, if_pos a, if_neg b, if_neg b]; exact ⟨rfl, h⟩
  · have a := b2_n.mp zc9
    rw [hP] at a
    have b : ¬ hdOk z w := fun q => absurd q.2.2.1 (i_ng zc27)
    rw [if_pos a, if_pos a, if_neg b, if_neg b]; exact ⟨rfl, h⟩
  · have a := b2_n.mp zc9
    rw [hP] at a
    have b : hdOk z w := ⟨Int32.not_lt.mp zc17, Int32.not_lt.mp zc22, i_ge zc27, zc33⟩
    rw [hH] at zc45
    have hlt : mH m < 12 := lt_n (b := 12) zc45
    rw [if_pos a, if_pos a, if_pos b, if_pos b, if_pos hlt, if_pos hlt]
    obtain ⟨c, p, hc, hp, ex, ey, ex2, ey2⟩ := par_in hm a
    have hI1 := did_inv h
    rw [← hH] at hI1
    have hm1 := did_ok hm hlt
    have hF : hdF m x y z = ftH (m_did m) c p z (mtA (m_did m) 12) 4096 0 (-1) 4 := by unfold hdF; rw [ex2, ey2]
    refine (g_ld rfl rfl rfl (g_dup rfl rfl (g_gi rfl rfl rfl rfl rfl (g_c rfl rfl (g_bin rfl rfl (g_pi rfl rfl rfl rfl rfl rfl rfl (g_ld rfl rfl rfl (g_ld rfl rfl rfl (g_ld rfl rfl rfl (g_ld rfl rfl rfl (g_cv rfl (s_fth hI1 hm1 hc hp ex ey) (by omega) rfl rfl rfl rfl rfl rfl rfl rfl rfl (fun zv65 zS65 zh65 => ?_))))))))))))
    obtain ⟨rfl, hI⟩ := zh65
    rw [← hF]
    refine (g_st rfl rfl rfl rfl rfl (g_ld rfl rfl rfl (g_c rfl rfl (g_if rfl rfl (fun zc73 => (g_ld rfl rfl rfl (g_if rfl rfl (fun zc80 => (g_ld rfl rfl rfl (g_ri rfl rfl rfl ?_))) (fun zc80 => (g_ld rfl rfl rfl (g_cs rfl (s_bitCount) (by omega) rfl rfl rfl rfl rfl rfl (z_k1 (g_go rfl (g_ri rfl rfl rfl ?_))))))))) (fun zc73 => (g_c rfl rfl (g_ri rfl rfl rfl ?_)))))))
    · rw [if_neg zc73, if_neg zc80]; exact ⟨rfl, hI⟩
    · rw [if_neg zc73, if_pos (Decidable.not_not.mp zc80)]; exact ⟨rfl, hI⟩
    · rw [if_pos (Decidable.not_not.mp zc73)]; exact ⟨rfl, hI⟩
  · have a := b2_n.mp zc9
    rw [hP] at a
    have b : hdOk z w := ⟨Int32.not_lt.mp zc17, Int32.not_lt.mp zc22, i_ge zc27, zc33⟩
    rw [hH] at zc45
    have hlt : ¬ mH m < 12 := fun q => zc45 (nI_lt q (by decide))
    rw [if_pos a, if_pos a, if_pos b, if_pos b, if_neg hlt, if_neg hlt]; exact ⟨rfl, h⟩
  · have a := b2_n.mp zc9
    rw [hP] at a
    have b : ¬ hdOk z w := fun q => zc33 q.2.2.2
    rw [if_pos a, if_pos a, if_neg b, if_neg b]; exact ⟨rfl, h⟩
  · have a := b2_0.mp (Decidable.not_not.mp zc9)
    rw [hP] at a
    rw [if_neg a, if_neg a]; exact ⟨rfl, h⟩
end
