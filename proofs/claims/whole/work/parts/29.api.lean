/-! the program's calls: sign, suits, about, image, restore, change -/
section
variable {l : Launch} {D : va_G} {ad : Nat → Nat} {cA : ClassId} {x y z : Int32} {S S' : zS} {m : Mt}
theorem InvX.scr (h : InvX S m) (hA : ∀ k, k < 32 → ¬ (10 ≤ k ∧ k ≤ 17) → S'.1 k = S.1 k) (hrow : ∀ k, k < 4 → S'.1 41 k = nI k) : InvX S' m := by
  obtain ⟨h1, h2, h3, h4, h5, h6, h7, h8, h9, h10, h11⟩ := h
  refine ⟨by rw [hA _ (by decide) (by decide)]; exact h1, by rw [hA _ (by decide) (by decide)]; exact h2, h3.ag (fun k _ _ => hA k (by omega) (by omega)), ?_, h5.ag (hA _ (by decide) (by decide)), by rw [hA _ (by decide) (by decide)]; exact h6, hrow, by rw [hA _ (by decide) (by decide)]; exact h8, fun k hk => ?_, by rw [hA _ (by decide) (by decide)]; exact h10, by rw [hA _ (by decide) (by decide)]; exact h11⟩
  · unfold KpX at h4 ⊢
    rw [hA _ (by decide) (by decide), hA _ (by decide) (by decide), hA _ (by decide) (by decide), hA _ (by decide) (by decide), hA _ (by decide) (by decide), hA _ (by decide) (by decide)]
    exact h4
  · have := h9 k hk
    unfold KpX at this ⊢
    rw [hA _ (by decide) (by decide), hA _ (by decide) (by decide), hA _ (by decide) (by decide), hA _ (by decide) (by decide), hA _ (by decide) (by decide), hA _ (by decide) (by decide)]
    exact this
theorem InvX.sl (h : InvX S m) (hm : MOk m) : SlX S (mS m) := fun s hs => by
  obtain ⟨a, b⟩ := h.2.2.2.1.2.1 s hs
  refine ⟨a, ?_, b⟩
  rcases hm.2.2.2.1.2.1 s hs with e | e
  · rw [show mS m s = [] from e]; simp
  · exact e.2
theorem InvX.kd (h : InvX S m) (hm : MOk m) : KdX S (mK m) := ⟨hm.2.2.2.1.1, h.2.2.2.1.1⟩
theorem InvX.fx (h : InvX S m) (hm : MOk m) : FX S (mB m) (wy (mB m) (mK m)) := ⟨h.2.2.1, hm.2.2.1, h.2.2.2.2.1, h.2.2.2.2.2.2.1⟩
def gZ (m : Mt) (x : Int32) : Int32 := if 0 ≤ x ∧ x < 8 then nI (mS m x.toNatClampNeg).length else 0
theorem gZ_eq (h : KpX S 18 (mN m)) (x : Int32) : f_siz S 18 x = gZ m x := by
  unfold f_siz gZ
  by_cases hx : 0 ≤ x ∧ x < 8
  · obtain ⟨j, hj, -, e⟩ := in_cl (n := 8) hx.1 hx.2
    rw [if_pos hx, if_pos hx, e]; exact (h.2.1 j hj).1
  · rw [if_neg hx, if_neg hx]
theorem gZ_pos (hm : MOk m) (h : 0 < gZ m x) : ∃ s, s < 8 ∧ x = nI s ∧ x.toNatClampNeg = s ∧ CT (mB m) (mS m s) ∧ (mS m s).length ≤ 15 ∧ gZ m x = nI (mS m s).length := by
  unfold gZ at h ⊢
  by_cases hx : 0 ≤ x ∧ x < 8
  · obtain ⟨j, hj, e1, e⟩ := in_cl (n := 8) hx.1 hx.2
    rw [if_pos hx, e] at h ⊢
    refine ⟨j, hj, e1, rfl, ?_⟩
    rcases hm.2.2.2.1.2.1 j hj with q | q
    · rw [show mS m j = [] from q] at h
      exact absurd h (by decide)
    · exact ⟨q.1, q.2, rfl⟩
  · rw [if_neg hx] at h
    exact absurd h (by decide)
theorem s_isFilled : Sp (l, wX, D, ad, cA) 2 m_SB_isFilled [.ref 0, .int x] S (fun v S' => v = .int (b2 (0 < f_siz S 18 x)) ∧ S' = S) := by
  refine Sp.of dk_SB_isFilled ok_SB_isFilled rfl (g_ld rfl rfl rfl (g_gr rfl rfl rfl rfl rfl (g_ld rfl rfl rfl (g_cv rfl (s_sizeOf (by decide)) (by omega) rfl rfl rfl rfl rfl rfl rfl rfl rfl (z_k1 (g_if rfl rfl (fun zc8 => (g_c rfl rfl (g_ri rfl rfl rfl ?_))) (fun zc8 => (g_c rfl rfl (g_go rfl (g_ri rfl rfl rfl ?_))))))))))
  · exact v_int (b2_f (i_nl zc8)).symm rfl
  · exact v_int (b2_t (i_gt zc8)).symm rfl
def v_sign (m : Mt) (x y : Int32) : Int32 := if 0 < gZ m x ∧ 0 ≤ y ∧ y < gZ m x then nI ((mS m x.toNatClampNeg).getD y.toNatClampNeg 0) else -101
theorem x_sign (h : InvX S m) (hm : MOk m) : Sp (l, wX, D, ad, cA) 3 m_SB_sign [.ref 0, .int x, .int y] S (fun v S' => v = .int (v_sign m x y) ∧ S' = S) := by
  have hZ := gZ_eq (m := m) h.2.2.2.1 x
  unfold v_sign
  refine Sp.of dk_SB_sign ok_SB_sign rfl (g_ld rfl rfl rfl (g_ld rfl rfl rfl (g_cv rfl (s_isFilled) (by omega) rfl rfl rfl rfl rfl rfl rfl rfl rfl (z_k1 (g_if rfl rfl (fun zc5 => (g_c rfl rfl (g_ri rfl rfl rfl ?_))) (fun zc5 => (g_ld rfl rfl rfl (g_if rfl rfl (fun zc9 => (g_c rfl rfl (g_ri rfl rfl rfl ?_))) (fun zc9 => (g_ld rfl rfl rfl (g_ld rfl rfl rfl (g_gr rfl rfl rfl rfl rfl (g_ld rfl rfl rfl (g_cv rfl (s_sizeOf (by decide)) (by omega) rfl rfl rfl rfl rfl rfl rfl rfl rfl (z_k1 (g_if rfl rfl (fun zc21 => (g_ld rfl rfl rfl (g_gr rfl rfl rfl rfl rfl (g_ld rfl rfl rfl (g_ld rfl rfl rfl (g_cv rfl (s_hsignAt (by decide)) (by omega) rfl rfl rfl rfl rfl rfl rfl rfl rfl (z_k1 (g_ri rfl rfl rfl ?_)))))))) (fun zc21 => (g_c rfl rfl (g_ri rfl rfl rfl ?_)))))))))))))))))))
  · have a := b2_0.mp zc5
    rw [hZ] at a
    rw [if_neg (fun q => a q.1)]; exact ⟨rfl, rfl⟩
  · rw [if_neg (fun q => absurd q.2.1 (i_ng zc9))]; exact ⟨rfl, rfl⟩
  · have a := b2_n.mp zc5
    rw [hZ] at a zc21
    rw [if_pos ⟨a, i_ge zc9, zc21⟩]
    obtain ⟨s, hs, e1, e2, hc, h15, e3⟩ := gZ_pos hm a
    rw [e3] at zc21
    obtain ⟨j, hj, e4, e5⟩ := in_cl (x := y) (n := (mS m s).length) (i_ge zc9) zc21 (by omega)
    refine ⟨?_, rfl⟩
    rw [e2, e5]
    have : f_sig S 18 x y = nI ((mS m s).getD j 0) := by
      unfold f_sig
      rw [e1, e4, if_pos ⟨in8 hs, in15 (k := j) (by omega)⟩, e15, nI_clamp (by omega)]
      exact (h.2.2.2.1.2.1 s hs).2 j hj
    rw [this]
  · rw [hZ] at zc21
    rw [if_neg (fun q => zc21 q.2.2)]; exact ⟨rfl, rfl⟩
noncomputable def v_suits (m : Mt) (x y : Int32) : Int32 := if 0 < gZ m x ∧ 0 < gZ m y then b2 (sF (mB m) (wy (mB m) (mK m)) 16 (mS m x.toNatClampNeg) (mS m y.toNatClampNeg) = true) else -101
theorem x_suits (h : InvX S m) (hm : MOk m) : Sp (l, wX, D, ad, cA) 58 m_SB_suits [.ref 0, .int x, .int y] S (fun v S' => v = .int (v_suits m x y) ∧ InvX S' m) := by
  have hZ := gZ_eq (m := m) h.2.2.2.1 x
  have hZ' := gZ_eq (m := m) h.2.2.2.1 y
  unfold v_suits
  refine Sp.of dk_SB_suits ok_SB_suits rfl (g_ld rfl rfl rfl (g_ld rfl rfl rfl (g_cv rfl (s_isFilled) (by omega) rfl rfl rfl rfl rfl rfl rfl rfl rfl (z_k1 (g_if rfl rfl (fun zc5 => (g_c rfl rfl (g_ri rfl rfl rfl ?_))) (fun zc5 => (g_ld rfl rfl rfl (g_ld rfl rfl rfl (g_cv rfl (s_isFilled) (by omega) rfl rfl rfl rfl rfl rfl rfl rfl rfl (z_k1 (g_if rfl rfl (fun zc13 => ?_) (fun zc13 => (g_c rfl rfl (g_ri rfl rfl rfl ?_))))))))))))))
  · have a := b2_0.mp zc5
    rw [hZ] at a
    rw [if_neg (fun q => a q.1)]; exact ⟨rfl, h⟩
  · have a := b2_n.mp zc5
    have b := b2_n.mp zc13
    rw [hZ] at a
    rw [hZ'] at b
    rw [if_pos ⟨a, b⟩]
    obtain ⟨s, hs, e1, e2, hc, h15, -⟩ := gZ_pos hm a
    obtain ⟨s', hs', e1', e2', hc', h15', -⟩ := gZ_pos hm b
    have ha : s < 8 ∧ x = nI s := ⟨hs, e1⟩
    have hb : s' < 8 ∧ y = nI s' := ⟨hs', e1'⟩
    rw [e2, e2']
    refine (g_ld rfl rfl rfl (g_gr rfl rfl rfl rfl rfl (g_ld rfl rfl rfl (g_gr rfl rfl rfl rfl rfl (g_ld rfl rfl rfl (g_cv rfl (s_takeSlot (h.sl hm) ha.1 ha.2) (by omega) rfl rfl rfl rfl rfl rfl rfl rfl rfl (fun zv28 zS28 zh28 => ?_)))))))
    obtain ⟨rfl, zh28r, hA1⟩ := zh28
    refine (g_ld rfl rfl rfl (g_gr rfl rfl rfl rfl rfl (g_ld rfl rfl rfl (g_gr rfl rfl rfl rfl rfl (g_cv rfl (s_layOne (Or.inl rfl) zh28r) (by omega) rfl rfl rfl rfl rfl rfl rfl rfl rfl (fun zv39 zS39 zh39 => ?_))))))
    obtain ⟨rfl, hA2, hAt2, hout2⟩ := zh39
    have hsl3 : SlX zS39 (mS m) := (h.sl hm).ag (by rw [hA2.1 _ (by decide), hA1.1 _ (by decide)]) (by rw [hA2.1 _ (by decide), hA1.1 _ (by decide)])
    refine (g_ld rfl rfl rfl (g_gr rfl rfl rfl rfl rfl (g_ld rfl rfl rfl (g_gr rfl rfl rfl rfl rfl (g_ld rfl rfl rfl (g_cv rfl (s_takeSlot hsl3 hb.1 hb.2) (by omega) rfl rfl rfl rfl rfl rfl rfl rfl rfl (fun zv51 zS51 zh51 => ?_)))))))
    obtain ⟨rfl, hr4, hA4⟩ := zh51
    refine (g_ld rfl rfl rfl (g_gr rfl rfl rfl rfl rfl (g_ld rfl rfl rfl (g_gr rfl rfl rfl rfl rfl (g_cv rfl (s_layOther (Or.inl rfl) hr4) (by omega) rfl rfl rfl rfl rfl rfl rfl rfl rfl (fun zv62 zS62 zh62 => ?_))))))
    obtain ⟨rfl, hA5, hAt5, hout5⟩ := zh62
    have k41 : ∀ j, j < 19 → zS62.1 41 j = zS39.1 41 j := fun j hj => by rw [hout5 j (by omega), hA4.1 _ (by decide)]
    have kA : ∀ k, k ≠ 38 → k ≠ 39 → k ≠ 41 → zS62.1 k = S.1 k := fun k g1 g2 g3 => by rw [hA5.1 k (by simp [g3]), hA4.1 k (by simp [g1, g2]), hA2.1 k (by simp [g3]), hA1.1 k (by simp [g1, g2])]
    have krow : ∀ k, k < 4 → zS62.1 41 k = nI k := fun j hj => by rw [k41 j (by omega), hout2 j (by omega), hA1.1 _ (by decide)]; exact h.2.2.2.2.2.2.1 j hj
    have hI : InvX zS62 m := h.scr (fun k hk _ => kA k (by omega) (by omega) (by omega)) krow
    have hX6 := hI.fx hm
    have hT6 : HT zS62 4 (mS m s) := ⟨hAt2.congr (fun j hj => k41 _ (by omega)), by omega⟩
    have hU6 : HT zS62 19 (mS m s') := ⟨hAt5, by omega⟩
    refine (g_ld rfl rfl rfl (g_gr rfl rfl rfl rfl rfl (g_cv rfl (s_oneFits hX6 hT6 hU6 hc hc') (by omega) rfl rfl rfl rfl rfl rfl rfl rfl rfl (z_k1 (g_if rfl rfl (fun zc72 => (g_c rfl rfl (g_ri rfl rfl rfl ?_))) (fun zc72 => (g_c rfl rfl (g_go rfl (g_ri rfl rfl rfl ?_)))))))))
    · have hf := b2_0.mp zc72
      rw [b2_f hf]
      exact ⟨rfl, hI⟩
    · have hf := b2_n.mp zc72
      rw [b2_t hf]
      exact ⟨rfl, hI⟩
  · have b := b2_0.mp (Decidable.not_not.mp zc13)
    rw [hZ'] at b
    rw [if_neg (fun q => b q.2)]; exact ⟨rfl, h⟩
end
