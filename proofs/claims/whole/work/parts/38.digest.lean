/-! digest -/
def dgF (f : Nat → Int32) : Nat → Nat → Int64 → Int64
  | 0, _, a => a
  | k + 1, i, a => dgF f k (i + 1) (31 * a + (f i).toInt64)
def dSl (m : Mt) (s : Nat) (a : Int64) : Int64 := dgF (fun i => nI ((mS m s).getD i 0)) (mS m s).length 0 (31 * a + (nI (mS m s).length).toInt64)
noncomputable def dMs (m : Mt) (c : Nat) : Nat → Nat → Int64 → Int64
  | 0, _, a => a
  | k + 1, j, a => dMs m c k (j + 1) (dgF (fun i => v_member m (nI c) (nI j) (nI i)) 6 0 a)
noncomputable def dCl (m : Mt) (c : Nat) (a : Int64) : Int64 := dMs m c (bM (mB m) c) 0 (dgF (fun i => v_about m (nI c) (nI i)) 6 0 a)
section
variable {l : Launch} {D : va_G} {ad : Nat → Nat} {cA : ClassId} {x y z w : Int32} {S S' : zS} {m : Mt} {g : Int64}
theorem sig_at (h : InvX S m) (hm : MOk m) {s i : Nat} (hs : s < 8) (hi : i < (mS m s).length) : f_sig S 18 (nI s) (nI i) = nI ((mS m s).getD i 0) := by
  have h15 := (h.sl hm s hs).2.1
  unfold f_sig
  rw [if_pos ⟨in8 hs, in15 (k := i) (by omega)⟩, e15, nI_clamp (by omega)]
  exact (h.2.2.2.1.2.1 s hs).2 i hi
theorem lp_dgSlot (h : InvX S m) (hm : MOk m) {s : Nat} (hs : s < 8) : ∀ (k i : Nat) (a : Int64), i + k = (mS m s).length → Go (l, wX, D, ad, cA) 2 m_SB_digestOfSlot (fun v S' => v = .long (dgF (fun i => nI ((mS m s).getD i 0)) k i a) ∧ S' = S) 20 [some (.ref 0), some (.long g), none, some (.int (nI s)), some (.long a), none, some (.int (nI i))] [] S
  | 0, i, a, e => by
    have hz := siz_eq (h.sl hm) hs
    have h15 := (h.sl hm s hs).2.1
    refine (g_ld rfl rfl rfl (g_ld rfl rfl rfl (g_gr rfl rfl rfl rfl rfl (g_ld rfl rfl rfl (g_cv rfl (s_sizeOf (by decide)) (by omega) rfl rfl rfl rfl rfl rfl rfl rfl rfl (z_k1 (g_if rfl rfl (fun zc30 => (g_ld rfl rfl rfl (g_rl rfl rfl ?_))) (fun zc30 => (g_c rfl rfl (g_ld rfl rfl rfl (g_bin rfl rfl (g_ld rfl rfl rfl (g_gr rfl rfl rfl rfl rfl (g_ld rfl rfl rfl (g_ld rfl rfl rfl (g_cv rfl (s_hsignAt (by decide)) (by omega) rfl rfl rfl rfl rfl rfl rfl rfl rfl (z_k1 (g_un rfl rfl (g_bin rfl rfl (g_stl rfl rfl rfl rfl rfl rfl (g_inc rfl rfl rfl rfl (g_go rfl ?_))))))))))))))))))))))
    · exact ⟨rfl, rfl⟩
    · rw [hz] at zc30
      have := nle_n zc30
      omega
  | k + 1, i, a, e => by
    have hz := siz_eq (h.sl hm) hs
    have h15 := (h.sl hm s hs).2.1
    refine (g_ld rfl rfl rfl (g_ld rfl rfl rfl (g_gr rfl rfl rfl rfl rfl (g_ld rfl rfl rfl (g_cv rfl (s_sizeOf (by decide)) (by omega) rfl rfl rfl rfl rfl rfl rfl rfl rfl (z_k1 (g_if rfl rfl (fun zc30 => (g_ld rfl rfl rfl (g_rl rfl rfl ?_))) (fun zc30 => (g_c rfl rfl (g_ld rfl rfl rfl (g_bin rfl rfl (g_ld rfl rfl rfl (g_gr rfl rfl rfl rfl rfl (g_ld rfl rfl rfl (g_ld rfl rfl rfl (g_cv rfl (s_hsignAt (by decide)) (by omega) rfl rfl rfl rfl rfl rfl rfl rfl rfl (z_k1 (g_un rfl rfl (g_bin rfl rfl (g_stl rfl rfl rfl rfl rfl rfl (g_inc rfl rfl rfl rfl (g_go rfl ?_))))))))))))))))))))))
    · rw [hz] at zc30
      have := le_n zc30
      omega
    · have := lp_dgSlot h hm hs k (i + 1) (31 * a + (f_sig S 18 (nI s) (nI i)).toInt64) (by omega)
      rw [nI_succ] at this
      rw [dgF, ← sig_at h hm hs (by omega)]
      exact this
theorem s_dgSlot (h : InvX S m) (hm : MOk m) {s : Nat} (hs : s < 8) (hx : x = nI s) : Sp (l, wX, D, ad, cA) 2 m_SB_digestOfSlot [.ref 0, .long g, .int x] S (fun v S' => v = .long (dSl m s g) ∧ S' = S) := by
  subst hx
  unfold dSl
  refine Sp.of dk_SB_digestOfSlot ok_SB_digestOfSlot rfl (g_c rfl rfl (g_ld rfl rfl rfl (g_bin rfl rfl (g_ld rfl rfl rfl (g_gr rfl rfl rfl rfl rfl (g_ld rfl rfl rfl (g_cv rfl (s_sizeOf (by decide)) (by omega) rfl rfl rfl rfl rfl rfl rfl rfl rfl (z_k1 (g_un rfl rfl (g_bin rfl rfl (g_stl rfl rfl rfl rfl rfl rfl (g_c rfl rfl (g_st rfl rfl rfl rfl rfl ?_)))))))))))))
  rw [siz_eq (h.sl hm) hs]
  exact lp_dgSlot h hm hs _ 0 _ (by omega)
theorem lp_dgC1 (h : InvX S m) (hm : MOk m) {c : Nat} {Post : Value → zS → Prop} (F : Int64) (K : Go (l, wX, D, ad, cA) 5 m_SB_digestOfClass Post 38 [some (.ref 0), some (.long g), none, some (.int (nI c)), some (.long F), none, some (.int 0), none] [] S) : ∀ (k i : Nat) (a : Int64), i + k = 6 → dgF (fun i => v_about m (nI c) (nI i)) k i a = F → Go (l, wX, D, ad, cA) 5 m_SB_digestOfClass Post 6 [some (.ref 0), some (.long g), none, some (.int (nI c)), some (.long a), none, some (.int (nI i)), none] [] S
  | 0, i, a, e, hF => by
    have e6 : i = 6 := by omega
    subst e6
    subst hF
    refine (g_ld rfl rfl rfl (g_c rfl rfl (g_if rfl rfl (fun zc9 => (g_c rfl rfl (g_st rfl rfl rfl rfl rfl ?_))) (fun zc9 => ?_))))
    · exact K
    · exact absurd (by decide) zc9
  | k + 1, i, a, e, hF => by
    have hng : ¬ nI i > 5 := by
      have h3 : i = 0 ∨ i = 1 ∨ i = 2 ∨ i = 3 ∨ i = 4 ∨ i = 5 := by omega
      rcases h3 with e | e | e | e | e | e <;> rw [e] <;> decide
    refine (g_ld rfl rfl rfl (g_c rfl rfl (g_if rfl rfl (fun zc9 => (g_c rfl rfl (g_st rfl rfl rfl rfl rfl ?_))) (fun zc9 => (g_c rfl rfl (g_ld rfl rfl rfl (g_bin rfl rfl (g_ld rfl rfl rfl (g_ld rfl rfl rfl (g_ld rfl rfl rfl (g_cv rfl (x_about h hm) (by omega) rfl rfl rfl rfl rfl rfl rfl rfl rfl (z_k1 (g_un rfl rfl (g_bin rfl rfl (g_stl rfl rfl rfl rfl rfl rfl (g_inc rfl rfl rfl rfl (g_go rfl ?_)))))))))))))))))
    · exact absurd zc9 hng
    · have := lp_dgC1 h hm F K k (i + 1) (31 * a + (v_about m (nI c) (nI i)).toInt64) (by omega) (by rw [← hF, dgF])
      rw [nI_succ] at this
      exact this
end
