/-! digest -/
noncomputable def dClS (m : Mt) : Nat → Nat → Int64 → Int64
  | 0, _, a => a
  | k + 1, c, a => dClS m k (c + 1) (dCl m c a)
def dSlS (m : Mt) : Nat → Nat → Int64 → Int64
  | 0, _, a => a
  | k + 1, s, a => dSlS m k (s + 1) (dSl m s a)
noncomputable def d2 (m : Mt) (a : Int64) : Int64 := if 0 < gZ m 0 ∧ 0 < gZ m 1 then 31 * a + (v_suits m 0 1).toInt64 else a
noncomputable def d3 (m : Mt) (a : Int64) : Int64 := if bN (mB m) = 0 then a else 31 * a + (v_rounds m).toInt64
def d4 (m : Mt) (a : Int64) : Int64 := dgF (fun i => nI ((mP m).getD i 0)) (mP m).length 0 a
noncomputable def d5 (m : Mt) (a : Int64) : Int64 := dgF (fun i => v_count m (nI i)) 11 0 a
noncomputable def v_digest (m : Mt) : Int64 := d5 m (d4 m (d3 m (d2 m (dSlS m 8 0 (dClS m (bN (mB m)) 0 1381)))))
section
variable {l : Launch} {D : va_G} {ad : Nat → Nat} {cA : ClassId} {x y z w : Int32} {S S' : zS} {m : Mt} {g : Int64}
theorem lp_dg5 (h : InvX S m) (hm : MOk m) : ∀ (k i : Nat) (a : Int64), i + k = 11 → Go (l, wX, D, ad, cA) 59 m_SB_digest (fun v S' => v = .long (dgF (fun i => v_count m (nI i)) k i a) ∧ InvX S' m) 140 [some (.ref 0), some (.long a), none, some (.int (nI i))] [] S
  | 0, i, a, e => by
    have e6 : i = 11 := by omega
    subst e6
    refine (g_ld rfl rfl rfl (g_c rfl rfl (g_if rfl rfl (fun zc143 => (g_ld rfl rfl rfl (g_rl rfl rfl ?_))) (fun zc143 => ?_))))
    · exact ⟨rfl, h⟩
    · exact absurd (by decide) zc143
  | k + 1, i, a, e => by
    have hng : ¬ nI i > 10 := i_nl (nI_le (show i ≤ 10 by omega) (by decide))
    refine (g_ld rfl rfl rfl (g_c rfl rfl (g_if rfl rfl (fun zc143 => (g_ld rfl rfl rfl (g_rl rfl rfl ?_))) (fun zc143 => (g_c rfl rfl (g_ld rfl rfl rfl (g_bin rfl rfl (g_ld rfl rfl rfl (g_ld rfl rfl rfl (g_cv rfl (x_count h hm) (by omega) rfl rfl rfl rfl rfl rfl rfl rfl rfl (z_k1 (g_un rfl rfl (g_bin rfl rfl (g_stl rfl rfl rfl rfl rfl rfl (g_inc rfl rfl rfl rfl (g_go rfl ?_))))))))))))))))
    · exact absurd zc143 hng
    · have := lp_dg5 h hm k (i + 1) (31 * a + (v_count m (nI i)).toInt64) (by omega)
      rw [nI_succ] at this
      exact this
theorem let_at (h : InvX S m) (hm : MOk m) {i : Nat} (hi : i < (mP m).length) : f_let S (nI i) = nI ((mP m).getD i 0) := by
  have h90 := hm.1
  have hin : (0 : Int32) ≤ nI i ∧ nI i < 90 := in_n (n := 90) (by omega) (by omega)
  unfold f_let
  rw [if_pos hin, nI_clamp (by omega)]
  have := h.2.1 i hi
  rw [Nat.zero_add] at this
  exact this
theorem lp_dg4 (h : InvX S m) (hm : MOk m) {Post : Value → zS → Prop} (F : Int64) (K : Go (l, wX, D, ad, cA) 59 m_SB_digest Post 140 [some (.ref 0), some (.long F), none, some (.int 0)] [] S) : ∀ (k i : Nat) (a : Int64), i + k = (mP m).length → dgF (fun i => nI ((mP m).getD i 0)) k i a = F → Go (l, wX, D, ad, cA) 59 m_SB_digest Post 105 [some (.ref 0), some (.long a), none, some (.int (nI i))] [] S
  | 0, i, a, e, hF => by
    have h90 := hm.1
    subst hF
    refine (g_ld rfl rfl rfl (g_ld rfl rfl rfl (g_gr rfl rfl rfl rfl rfl (g_gi rfl rfl rfl rfl rfl (g_if rfl rfl (fun zc113 => (g_c rfl rfl (g_st rfl rfl rfl rfl rfl ?_))) (fun zc113 => (g_c rfl rfl (g_ld rfl rfl rfl (g_bin rfl rfl (g_ld rfl rfl rfl (g_gr rfl rfl rfl rfl rfl (g_ld rfl rfl rfl (g_cv rfl (s_letterAt) (by omega) rfl rfl rfl rfl rfl rfl rfl rfl rfl (z_k1 (g_un rfl rfl (g_bin rfl rfl (g_stl rfl rfl rfl rfl rfl rfl (g_inc rfl rfl rfl rfl (g_go rfl ?_)))))))))))))))))))
    · exact K
    · rw [h.1] at zc113
      have := nle_n zc113
      omega
  | k + 1, i, a, e, hF => by
    have h90 := hm.1
    refine (g_ld rfl rfl rfl (g_ld rfl rfl rfl (g_gr rfl rfl rfl rfl rfl (g_gi rfl rfl rfl rfl rfl (g_if rfl rfl (fun zc113 => (g_c rfl rfl (g_st rfl rfl rfl rfl rfl ?_))) (fun zc113 => (g_c rfl rfl (g_ld rfl rfl rfl (g_bin rfl rfl (g_ld rfl rfl rfl (g_gr rfl rfl rfl rfl rfl (g_ld rfl rfl rfl (g_cv rfl (s_letterAt) (by omega) rfl rfl rfl rfl rfl rfl rfl rfl rfl (z_k1 (g_un rfl rfl (g_bin rfl rfl (g_stl rfl rfl rfl rfl rfl rfl (g_inc rfl rfl rfl rfl (g_go rfl ?_)))))))))))))))))))
    · rw [h.1] at zc113
      have := le_n zc113
      omega
    · have := lp_dg4 h hm F K k (i + 1) (31 * a + (f_let S (nI i)).toInt64) (by omega) (by rw [← hF, dgF, let_at h hm (by omega)])
      rw [nI_succ] at this
      exact this
abbrev dPost (m : Mt) (F : Int64) : Value → zS → Prop := fun v S' => v = .long F ∧ InvX S' m
theorem dg45 (h : InvX S m) (hm : MOk m) (a : Int64) : Go (l, wX, D, ad, cA) 59 m_SB_digest (dPost m (d5 m (d4 m a))) 105 [some (.ref 0), some (.long a), none, some (.int 0)] [] S :=
  lp_dg4 h hm (d4 m a) (lp_dg5 h hm 11 0 (d4 m a) (by omega)) _ 0 a (by omega) rfl
theorem dg345 (h : InvX S m) (hm : MOk m) (a : Int64) (w : Option Value) : Go (l, wX, D, ad, cA) 59 m_SB_digest (dPost m (d5 m (d4 m (d3 m a)))) 81 [some (.ref 0), some (.long a), none, w] [] S := by
  have h4 := hm.2.2.1.1
  have hB := h.2.2.1.1
  unfold d3
  refine (g_ld rfl rfl rfl (g_gr rfl rfl rfl rfl rfl (g_gi rfl rfl rfl rfl rfl (g_if rfl rfl (fun zc88 => (g_c rfl rfl (g_st rfl rfl rfl rfl rfl ?_))) (fun zc88 => (g_c rfl rfl (g_ld rfl rfl rfl (g_bin rfl rfl (g_ld rfl rfl rfl (g_cv rfl (x_rounds h hm) (by omega) rfl rfl rfl rfl rfl rfl rfl rfl rfl (z_k1 (g_un rfl rfl (g_bin rfl rfl (g_stl rfl rfl rfl rfl rfl rfl (g_c rfl rfl (g_st rfl rfl rfl rfl rfl ?_))))))))))))))))
  · rw [hB] at zc88
    have := le_n (b := 0) zc88
    rw [if_pos (by omega)]
    exact dg45 h hm a
  · rw [hB] at zc88
    have := nle_n (b := 0) zc88
    rw [if_neg (by omega)]
    exact dg45 h hm _
theorem dg2345 (h : InvX S m) (hm : MOk m) (a : Int64) (w : Option Value) : Go (l, wX, D, ad, cA) 59 m_SB_digest (dPost m (d5 m (d4 m (d3 m (d2 m a))))) 51 [some (.ref 0), some (.long a), none, w] [] S := by
  have hZ := gZ_eq (m := m) h.2.2.2.1 0
  have hZ' := gZ_eq (m := m) h.2.2.2.1 1
  unfold d2
  refine (g_ld rfl rfl rfl (g_c rfl rfl (g_cv rfl (s_isFilled) (by omega) rfl rfl rfl rfl rfl rfl rfl rfl rfl (z_k1 (g_if rfl rfl (fun zc56 => ?_) (fun zc56 => (g_ld rfl rfl rfl (g_c rfl rfl (g_cv rfl (s_isFilled) (by omega) rfl rfl rfl rfl rfl rfl rfl rfl rfl (z_k1 (g_if rfl rfl (fun zc64 => ?_) (fun zc64 => (g_c rfl rfl (g_ld rfl rfl rfl (g_bin rfl rfl (g_ld rfl rfl rfl (g_c rfl rfl (g_c rfl rfl (g_cv rfl (x_suits h hm) (by omega) rfl rfl rfl rfl rfl rfl rfl rfl rfl (fun zv75 zS75 zh75 => ?_))))))))))))))))))))
  · have b := b2_0.mp zc56
    rw [hZ] at b
    rw [if_neg (fun q => b q.1)]
    exact dg345 h hm a w
  · have b := b2_0.mp zc64
    rw [hZ'] at b
    rw [if_neg (fun q => b q.2)]
    exact dg345 h hm a w
  · have b := b2_n.mp zc56
    have c := b2_n.mp zc64
    rw [hZ] at b
    rw [hZ'] at c
    rw [if_pos ⟨b, c⟩]
    obtain ⟨rfl, hI⟩ := zh75
    refine (g_un rfl rfl (g_bin rfl rfl (g_stl rfl rfl rfl rfl rfl rfl ?_)))
    exact dg345 hI hm _ w
theorem lp_dgS (h : InvX S m) (hm : MOk m) : ∀ (k s : Nat) (a : Int64), s + k = 8 → Go (l, wX, D, ad, cA) 59 m_SB_digest (dPost m (d5 m (d4 m (d3 m (d2 m (dSlS m k s a)))))) 32 [some (.ref 0), some (.long a), none, some (.int (nI s))] [] S
  | 0, s, a, e => by
    have e6 : s = 8 := by omega
    subst e6
    refine (g_ld rfl rfl rfl (g_c rfl rfl (g_if rfl rfl (fun zc35 => ?_) (fun zc35 => ?_))))
    · exact dg2345 h hm a _
    · exact absurd (by decide) zc35
  | k + 1, s, a, e => by
    have hs : s < 8 := by omega
    have hng : ¬ (8 : Int32) ≤ nI s := fun q => by have := le_n (a := 8) q; omega
    refine (g_ld rfl rfl rfl (g_c rfl rfl (g_if rfl rfl (fun zc35 => ?_) (fun zc35 => (g_ld rfl rfl rfl (g_ld rfl rfl rfl (g_ld rfl rfl rfl (g_cv rfl (s_dgSlot h hm hs rfl) (by omega) rfl rfl rfl rfl rfl rfl rfl rfl rfl (z_k1 (g_stl rfl rfl rfl rfl rfl rfl (g_inc rfl rfl rfl rfl (g_go rfl ?_))))))))))))
    · exact absurd zc35 hng
    · have := lp_dgS h hm k (s + 1) (dSl m s a) (by omega)
      rw [nI_succ] at this
      exact this
theorem lp_dgK (hm : MOk m) : ∀ (k c : Nat) (a : Int64) (S : zS), InvX S m → c + k = bN (mB m) → Go (l, wX, D, ad, cA) 59 m_SB_digest (dPost m (d5 m (d4 m (d3 m (d2 m (dSlS m 8 0 (dClS m k c a))))))) 6 [some (.ref 0), some (.long a), none, some (.int (nI c))] [] S
  | 0, c, a, S, h, e => by
    have h4 := hm.2.2.1.1
    have hB := h.2.2.1.1
    refine (g_ld rfl rfl rfl (g_ld rfl rfl rfl (g_gr rfl rfl rfl rfl rfl (g_gi rfl rfl rfl rfl rfl (g_if rfl rfl (fun zc14 => (g_c rfl rfl (g_st rfl rfl rfl rfl rfl ?_))) (fun zc14 => ?_))))))
    · exact lp_dgS h hm 8 0 a (by omega)
    · rw [hB] at zc14
      have := nle_n zc14
      omega
  | k + 1, c, a, S, h, e => by
    have h4 := hm.2.2.1.1
    have hB := h.2.2.1.1
    have hc : c < 4 := by omega
    refine (g_ld rfl rfl rfl (g_ld rfl rfl rfl (g_gr rfl rfl rfl rfl rfl (g_gi rfl rfl rfl rfl rfl (g_if rfl rfl (fun zc14 => (g_c rfl rfl (g_st rfl rfl rfl rfl rfl ?_))) (fun zc14 => (g_ld rfl rfl rfl (g_ld rfl rfl rfl (g_ld rfl rfl rfl (g_cv rfl (s_dgClass h hm hc rfl) (by omega) rfl rfl rfl rfl rfl rfl rfl rfl rfl (fun zv20 zS20 zh20 => ?_)))))))))))
    · rw [hB] at zc14
      have := le_n zc14
      omega
    · obtain ⟨rfl, hI⟩ := zh20
      refine (g_stl rfl rfl rfl rfl rfl rfl (g_inc rfl rfl rfl rfl (g_go rfl ?_)))
      have := lp_dgK hm k (c + 1) (dCl m c a) zS20 hI (by omega)
      rw [nI_succ] at this
      exact this
theorem x_digest (h : InvX S m) (hm : MOk m) : Sp (l, wX, D, ad, cA) 59 m_SB_digest [.ref 0] S (fun v S' => v = .long (v_digest m) ∧ InvX S' m) := by
  unfold v_digest
  refine Sp.of dk_SB_digest ok_SB_digest rfl (g_c rfl rfl (g_stl rfl rfl rfl rfl rfl rfl (g_c rfl rfl (g_st rfl rfl rfl rfl rfl ?_))))
  exact lp_dgK hm (bN (mB m)) 0 1381 S h (by omega)
end
