/-! the reference: sign, as, see, slotsUsed -/
theorem in07 {x : Int32} : (0 ≤ x ∧ x ≤ 7) ↔ (0 ≤ x ∧ x < 8) := by
  have := le_pred (x := x) (k := 8) (by omega)
  rw [show nI 8 - 1 = (7 : Int32) by decide] at this
  exact this
theorem e16 (s i : Nat) : 16 * nI s + nI i = nI (16 * s + i) := by rw [show (16 : Int32) = nI 16 from rfl, pk_mul, nI_add]
theorem e4 (s i : Nat) : 4 * nI s + nI i = nI (4 * s + i) := by rw [show (4 : Int32) = nI 4 from rfl, pk_mul, nI_add]
section
variable {l : Launch} {D : va_G} {ad : Nat → Nat} {cA : ClassId} {x y z w : Int32} {S S' S0 : zS} {m : Mt} {B : Bk} {n p k r q c : Nat}
theorem s_isFull (h : InvM S m) : Sp (l, wM, D, ad, cA) 1 m_M_isFull [.ref 0, .int x] S (fun v S' => v = .int (b2 (0 < gZ m x)) ∧ S' = S) := by
  unfold gZ
  refine Sp.of dk_M_isFull ok_M_isFull rfl (g_ld rfl rfl rfl (g_un rfl rfl (g_c rfl rfl (g_c rfl rfl (g_cs rfl (s_inE (lo := 0) (hi := 7) rfl rfl) (by omega) rfl rfl rfl rfl rfl rfl (z_k1 (g_if rfl rfl (fun zc9 => (g_c rfl rfl (g_ri rfl rfl rfl ?_))) (fun zc9 => (g_ld rfl rfl rfl (g_gr rfl rfl rfl rfl rfl (g_ld rfl rfl rfl (g_ald rfl rfl rfl ?_ (g_if rfl rfl (fun zc18 => (g_c rfl rfl (g_ri rfl rfl rfl ?_))) (fun zc18 => (g_c rfl rfl (g_go rfl (g_ri rfl rfl rfl ?_)))))))))))))))))
  · have a := b2_0.mp zc9
    rw [in07] at a
    rw [if_neg a]
    exact v_int (b2_f (by decide)).symm rfl
  · have a := b2_n.mp zc9
    rw [in07] at a
    obtain ⟨s, hs, e1, e2⟩ := in_cl (n := 8) a.1 a.2
    rw [e1]
    exact vp_in_nI hs (by decide)
  · have a := b2_n.mp zc9
    rw [in07] at a
    obtain ⟨s, hs, e1, e2⟩ := in_cl (n := 8) a.1 a.2
    rw [e2, (h.2.2.2.1.2.1 s hs).1] at zc18
    rw [if_pos a, e2]
    exact v_int (b2_f (i_nl zc18)).symm rfl
  · have a := b2_n.mp zc9
    rw [in07] at a
    obtain ⟨s, hs, e1, e2⟩ := in_cl (n := 8) a.1 a.2
    rw [e2, (h.2.2.2.1.2.1 s hs).1] at zc18
    rw [if_pos a, e2]
    exact v_int (b2_t (i_gt zc18)).symm rfl
theorem y_sign (h : InvM S m) (hm : MOk m) : Sp (l, wM, D, ad, cA) 2 m_M_sign [.ref 0, .int x, .int y] S (fun v S' => v = .int (v_sign m x y) ∧ S' = S) := by
  unfold v_sign
  refine Sp.of dk_M_sign ok_M_sign rfl (g_ld rfl rfl rfl (g_ld rfl rfl rfl (g_cv rfl (s_isFull h) (by omega) rfl rfl rfl rfl rfl rfl rfl rfl rfl (z_k1 (g_if rfl rfl (fun zc5 => (g_c rfl rfl (g_ri rfl rfl rfl ?_))) (fun zc5 => (g_ld rfl rfl rfl (g_un rfl rfl (g_c rfl rfl (g_ld rfl rfl rfl (g_gr rfl rfl rfl rfl rfl (g_ld rfl rfl rfl (g_ald rfl rfl rfl ?_ (g_c rfl rfl (g_bin rfl rfl (g_un rfl rfl (g_cs rfl (s_inE (lo := 0) (hi := S.1 12 x.toNatClampNeg - 1) rfl rfl) (by omega) rfl rfl rfl rfl rfl rfl (z_k1 (g_if rfl rfl (fun zc23 => (g_c rfl rfl (g_ri rfl rfl rfl ?_))) (fun zc23 => (g_ld rfl rfl rfl (g_gr rfl rfl rfl rfl rfl (g_c rfl rfl (g_ld rfl rfl rfl (g_bin rfl rfl (g_ld rfl rfl rfl (g_bin rfl rfl (g_ald rfl rfl rfl ?_ (g_go rfl (g_ri rfl rfl rfl ?_))))))))))))))))))))))))))))))
  · have a := b2_0.mp zc5
    rw [if_neg (fun q => a q.1)]; exact ⟨rfl, rfl⟩
  · have a := b2_n.mp zc5
    obtain ⟨s, hs, e1, e2, hc, h15, e3⟩ := gZ_pos hm a
    rw [e1]
    exact vp_in_nI hs (by decide)
  · have a := b2_n.mp zc5
    obtain ⟨s, hs, e1, e2, hc, h15, e3⟩ := gZ_pos hm a
    rw [e2, (h.2.2.2.1.2.1 s hs).1] at zc23
    have b := b2_0.mp zc23
    rw [le_pred (by have : (mS m s).length ≤ 15 := h15; exact Nat.lt_of_le_of_lt this (by omega))] at b
    rw [if_neg (fun q => b (by have g := q.2; rw [e3] at g; exact g))]; exact ⟨rfl, rfl⟩
  · have a := b2_n.mp zc5
    obtain ⟨s, hs, e1, e2, hc, h15, e3⟩ := gZ_pos hm a
    rw [e2, (h.2.2.2.1.2.1 s hs).1] at zc23
    have b := b2_n.mp zc23
    rw [le_pred (by have : (mS m s).length ≤ 15 := h15; exact Nat.lt_of_le_of_lt this (by omega))] at b
    obtain ⟨j, hj, e4, e5⟩ := in_cl (x := y) (n := (mS m s).length) b.1 b.2 (by omega)
    rw [e1, e4, e16]
    exact vp_in_nI (by omega) (by decide)
  · have a := b2_n.mp zc5
    obtain ⟨s, hs, e1, e2, hc, h15, e3⟩ := gZ_pos hm a
    rw [e2, (h.2.2.2.1.2.1 s hs).1] at zc23
    have b := b2_n.mp zc23
    rw [le_pred (by have : (mS m s).length ≤ 15 := h15; exact Nat.lt_of_le_of_lt this (by omega))] at b
    obtain ⟨j, hj, e4, e5⟩ := in_cl (x := y) (n := (mS m s).length) b.1 b.2 (by omega)
    have b' : 0 < gZ m x ∧ 0 ≤ y ∧ y < gZ m x := ⟨a, by rw [e3]; exact b⟩
    rw [if_pos b', e2, e5]
    refine ⟨?_, rfl⟩
    rw [e1, e4, e16, nI_clamp (by omega)]
    have := (h.2.2.2.1.2.1 s hs).2 j hj
    rw [this]
    rfl
theorem kd_at (h : InvM S m) (hm : MOk m) (hy : 0 ≤ y ∧ y < gM m x) : ∃ c j, c < bN (mB m) ∧ c < 4 ∧ j < bM (mB m) c ∧ j < 3 ∧ x = nI c ∧ y = nI j ∧ 4 * x + y = nI (4 * c + j) ∧ S.1 11 (4 * x + y).toNatClampNeg = gK m x y ∧ gK m x y = nI (mK m (3 * c + j)) := by
  obtain ⟨c, j, hc, hj, e1, e2, e3, e4', e5⟩ := mem_in hm hy
  have h3 := hm.2.2.1.2.2.2.1 c
  have e6 : 4 * x + y = nI (4 * c + j) := by rw [e1, e2, e4]
  have e7 : gK m x y = nI (mK m (3 * c + j)) := by
    unfold gK
    rw [e3, if_pos (in12 e4'), nI_clamp (by omega)]
  refine ⟨c, j, e5, hc, hj, by omega, e1, e2, e6, ?_, e7⟩
  rw [e6, e7, nI_clamp (by omega)]
  exact h.2.2.2.1.1 c j e5 hj
theorem y_as (h : InvM S m) (hm : MOk m) : Sp (l, wM, D, ad, cA) 3 m_M_as [.ref 0, .int x, .int y, .int z] S (fun v S' => v = .int (v_as m x y z) ∧ S' = S) := by
  unfold v_as
  refine Sp.of dk_M_as ok_M_as rfl (g_ld rfl rfl rfl (g_ld rfl rfl rfl (g_ld rfl rfl rfl (g_cv rfl (s_isMemberOf h hm) (by omega) rfl rfl rfl rfl rfl rfl rfl rfl rfl (z_k1 (g_if rfl rfl (fun zc6 => (g_ld rfl rfl rfl (g_un rfl rfl (g_c rfl rfl (g_c rfl rfl (g_cs rfl (s_inE (lo := 0) (hi := 4) rfl rfl) (by omega) rfl rfl rfl rfl rfl rfl (z_k1 (g_if rfl rfl (fun zc21 => (g_ld rfl rfl rfl (g_gr rfl rfl rfl rfl rfl (g_c rfl rfl (g_ld rfl rfl rfl (g_bin rfl rfl (g_ld rfl rfl rfl (g_bin rfl rfl (g_ald rfl rfl rfl ?_ (g_st rfl rfl rfl rfl rfl ?_)))))))))) (fun zc21 => (g_c rfl rfl (g_ri rfl rfl rfl ?_))))))))))) (fun zc6 => (g_c rfl rfl (g_ri rfl rfl rfl ?_)))))))))
  · have a := b2_n.mp zc6
    obtain ⟨c, j, hc, hc4, hj, hj3, e1, e2, e3, e5, e6⟩ := kd_at h hm a
    rw [e3]
    exact vp_in_nI (by omega) (by decide)
  · have a := b2_n.mp zc6
    have b := b2_n.mp zc21
    obtain ⟨c, j, hc, hc4, hj, hj3, e1, e2, e3, e5, e6⟩ := kd_at h hm a
    rw [if_pos a, if_pos b, e5]
    refine (g_ld rfl rfl rfl (g_if rfl rfl (fun zc40 => (g_ld rfl rfl rfl (g_go rfl (g_ri rfl rfl rfl ?_)))) (fun zc40 => (g_ld rfl rfl rfl (g_ld rfl rfl rfl (g_if rfl rfl (fun zc46 => (g_ld rfl rfl rfl (g_go rfl (g_ri rfl rfl rfl ?_)))) (fun zc46 => (g_ld rfl rfl rfl (g_c rfl rfl (g_if rfl rfl (fun zc51 => (g_c rfl rfl (g_ri rfl rfl rfl ?_))) (fun zc51 => (g_ld rfl rfl rfl (g_c rfl rfl (g_if rfl rfl (fun zc57 => (g_c rfl rfl (g_ri rfl rfl rfl ?_))) (fun zc57 => (g_ld rfl rfl rfl (g_go rfl (g_ri rfl rfl rfl ?_))))))))))))))))))
    · rw [if_pos (Or.inr (Or.inl zc40))]; exact ⟨rfl, rfl⟩
    · rw [if_pos (Or.inl zc46)]; exact ⟨rfl, rfl⟩
    · rw [if_neg (fun q => by rcases q with q | q | q; exact zc46 q; exact zc40 q; exact zc51 q.1)]; exact ⟨rfl, rfl⟩
    · rw [if_neg (fun q => by rcases q with q | q | q; exact zc46 q; exact zc40 q; exact zc57 q.2)]; exact ⟨rfl, rfl⟩
    · rw [if_pos (Or.inr (Or.inr ⟨Decidable.not_not.mp zc51, Decidable.not_not.mp zc57⟩))]; exact ⟨rfl, rfl⟩
  · have a := b2_n.mp zc6
    have b := b2_0.mp (Decidable.not_not.mp zc21)
    rw [if_pos a, if_neg b]; exact ⟨rfl, rfl⟩
  · have a := b2_0.mp (Decidable.not_not.mp zc6)
    rw [if_neg a]; exact ⟨rfl, rfl⟩
theorem lp_slots (h : InvM S m) (hm : MOk m) : ∀ (k i : Nat), i + k = 8 → Go (l, wM, D, ad, cA) 0 m_M_slotsUsed (fun v S' => v = .int (nI (cntS (mS m) 8)) ∧ S' = S) 4 [some (.ref 0), some (.int (nI (cntS (mS m) i))), some (.int (nI i))] [] S
  | 0, i, e => by
    have e6 : i = 8 := by omega
    subst e6
    refine (g_ld rfl rfl rfl (g_c rfl rfl (g_if rfl rfl (fun zc7 => (g_ld rfl rfl rfl (g_ri rfl rfl rfl ?_))) (fun zc7 => ?_))))
    · exact ⟨rfl, rfl⟩
    · exact absurd (by decide) zc7
  | k + 1, i, e => by
    have hi : i < 8 := by omega
    have hS := (h.2.2.2.1.2.1 i hi).1
    have h15 : (mS m i).length ≤ 15 := by
      rcases hm.2.2.2.1.2.1 i hi with q | q
      · rw [show mS m i = [] from q]; simp
      · exact q.2
    have ih := lp_slots h hm k (i + 1) (by omega)
    have es : cntS (mS m) (i + 1) = cntS (mS m) i + (if mS m i = [] then 0 else 1) := rfl
    refine (g_ld rfl rfl rfl (g_c rfl rfl (g_if rfl rfl (fun zc7 => (g_ld rfl rfl rfl (g_ri rfl rfl rfl ?_))) (fun zc7 => (g_ld rfl rfl rfl (g_ld rfl rfl rfl (g_gr rfl rfl rfl rfl rfl (g_ld rfl rfl rfl (g_ald rfl rfl rfl ?_ (g_if rfl rfl (fun zc17 => (g_c rfl rfl (g_bin rfl rfl (g_st rfl rfl rfl rfl rfl (g_inc rfl rfl rfl rfl (g_go rfl ?_)))))) (fun zc17 => (g_c rfl rfl (g_go rfl (g_bin rfl rfl (g_st rfl rfl rfl rfl rfl (g_inc rfl rfl rfl rfl (g_go rfl ?_)))))))))))))))))
    · have := le_n (a := 8) zc7
      omega
    · exact vp_in_nI hi (by decide)
    · rw [nI_clamp (by omega), hS] at zc17
      have e0 : (mS m i).length = 0 := by
        have : (mS m i).length ≤ 0 := le_n (b := 0) zc17 (by show (mS m i).length < 2 ^ 31; omega)
        omega
      have en : mS m i = [] := List.length_eq_zero_iff.mp e0
      rw [es, if_pos en, nI_succ] at ih
      rw [show nI (cntS (mS m) i) + 0 = nI (cntS (mS m) i + 0) from nI_add _ 0]
      exact ih
    · rw [nI_clamp (by omega), hS] at zc17
      have en : ¬ mS m i = [] := fun q => zc17 (by
        show nI (mS m i).length ≤ 0
        rw [q]; decide)
      rw [es, if_neg en, nI_succ (cntS (mS m) i), nI_succ i] at ih
      exact ih
theorem s_slotsUsed (h : InvM S m) (hm : MOk m) : Sp (l, wM, D, ad, cA) 0 m_M_slotsUsed [.ref 0] S (fun v S' => v = .int (nI (cntS (mS m) 8)) ∧ S' = S) := by
  refine Sp.of dk_M_slotsUsed ok_M_slotsUsed rfl (g_c rfl rfl (g_st rfl rfl rfl rfl rfl (g_c rfl rfl (g_st rfl rfl rfl rfl rfl ?_))))
  exact lp_slots h hm 8 0 (by omega)
end
