/-! digest: members, classes -/
section
variable {l : Launch} {D : va_G} {ad : Nat → Nat} {cA : ClassId} {x y z w : Int32} {S S' : zS} {m : Mt} {g : Int64}
theorem mem_at (h : InvX S m) {k : Nat} (hk : k < 4) : f_mem S 3 (nI k) = nI (bM (mB m) k) := by
  have hin : (0 : Int32) ≤ nI k ∧ nI k < 4 := in_n (n := 4) hk (by omega)
  rw [gM_eq (m := m) h.2.2.1]
  unfold gM
  rw [if_pos hin, nI_clamp (by omega)]
theorem lp_dgC3 (hm : MOk m) {c j : Nat} {Post : Value → zS → Prop} (F : Int64) (K : ∀ (S : zS) (w : Option Value), InvX S m → Go (l, wX, D, ad, cA) 5 m_SB_digestOfClass Post 38 [some (.ref 0), some (.long g), none, some (.int (nI c)), some (.long F), none, some (.int (nI (j + 1))), w] [] S) : ∀ (k i : Nat) (a : Int64) (S : zS), InvX S m → i + k = 6 → dgF (fun i => v_member m (nI c) (nI j) (nI i)) k i a = F → Go (l, wX, D, ad, cA) 5 m_SB_digestOfClass Post 54 [some (.ref 0), some (.long g), none, some (.int (nI c)), some (.long a), none, some (.int (nI j)), some (.int (nI i))] [] S
  | 0, i, a, S, h, e, hF => by
    have e6 : i = 6 := by omega
    subst e6
    subst hF
    refine (g_ld rfl rfl rfl (g_c rfl rfl (g_if rfl rfl (fun zc57 => (g_inc rfl rfl rfl rfl (g_go rfl ?_))) (fun zc57 => ?_))))
    · have := K S (some (.int (nI 6))) h
      rw [nI_succ] at this
      exact this
    · exact absurd (by decide) zc57
  | k + 1, i, a, S, h, e, hF => by
    have hng : ¬ nI i > 5 := by
      have h3 : i = 0 ∨ i = 1 ∨ i = 2 ∨ i = 3 ∨ i = 4 ∨ i = 5 := by omega
      rcases h3 with e | e | e | e | e | e <;> rw [e] <;> decide
    refine (g_ld rfl rfl rfl (g_c rfl rfl (g_if rfl rfl (fun zc57 => (g_inc rfl rfl rfl rfl (g_go rfl ?_))) (fun zc57 => (g_c rfl rfl (g_ld rfl rfl rfl (g_bin rfl rfl (g_ld rfl rfl rfl (g_ld rfl rfl rfl (g_ld rfl rfl rfl (g_ld rfl rfl rfl (g_cv rfl (x_member h hm) (by omega) rfl rfl rfl rfl rfl rfl rfl rfl rfl (fun zv72 zS72 zh72 => ?_)))))))))))))
    · exact absurd zc57 hng
    · obtain ⟨rfl, hI⟩ := zh72
      refine (g_un rfl rfl (g_bin rfl rfl (g_stl rfl rfl rfl rfl rfl rfl (g_inc rfl rfl rfl rfl (g_go rfl ?_)))))
      have := lp_dgC3 hm F K k (i + 1) (31 * a + (v_member m (nI c) (nI j) (nI i)).toInt64) zS72 hI (by omega) (by rw [← hF, dgF])
      rw [nI_succ] at this
      exact this
theorem lp_dgC2 (hm : MOk m) {c : Nat} (hc : c < 4) : ∀ (k j : Nat) (a : Int64) (S : zS) (w : Option Value), InvX S m → j + k = bM (mB m) c → Go (l, wX, D, ad, cA) 5 m_SB_digestOfClass (fun v S' => v = .long (dMs m c k j a) ∧ InvX S' m) 38 [some (.ref 0), some (.long g), none, some (.int (nI c)), some (.long a), none, some (.int (nI j)), w] [] S
  | 0, j, a, S, w, h, e => by
    have hM := mem_at h hc
    have h3 := hm.2.2.1.2.2.2.1 c
    refine (g_ld rfl rfl rfl (g_ld rfl rfl rfl (g_gr rfl rfl rfl rfl rfl (g_ld rfl rfl rfl (g_cv rfl (s_membersOf (by decide)) (by omega) rfl rfl rfl rfl rfl rfl rfl rfl rfl (z_k1 (g_if rfl rfl (fun zc48 => (g_ld rfl rfl rfl (g_rl rfl rfl ?_))) (fun zc48 => (g_c rfl rfl (g_st rfl rfl rfl rfl rfl ?_))))))))))
    · exact ⟨rfl, h⟩
    · rw [hM] at zc48
      have := nle_n zc48
      omega
  | k + 1, j, a, S, w, h, e => by
    have hM := mem_at h hc
    have h3 := hm.2.2.1.2.2.2.1 c
    refine (g_ld rfl rfl rfl (g_ld rfl rfl rfl (g_gr rfl rfl rfl rfl rfl (g_ld rfl rfl rfl (g_cv rfl (s_membersOf (by decide)) (by omega) rfl rfl rfl rfl rfl rfl rfl rfl rfl (z_k1 (g_if rfl rfl (fun zc48 => (g_ld rfl rfl rfl (g_rl rfl rfl ?_))) (fun zc48 => (g_c rfl rfl (g_st rfl rfl rfl rfl rfl ?_))))))))))
    · rw [hM] at zc48
      have := le_n zc48
      omega
    · exact lp_dgC3 hm (dgF (fun i => v_member m (nI c) (nI j) (nI i)) 6 0 a) (fun S w h => lp_dgC2 hm hc k (j + 1) _ S w h (by omega)) 6 0 a S h (by omega) rfl
theorem s_dgClass (h : InvX S m) (hm : MOk m) {c : Nat} (hc : c < 4) (hx : x = nI c) : Sp (l, wX, D, ad, cA) 5 m_SB_digestOfClass [.ref 0, .long g, .int x] S (fun v S' => v = .long (dCl m c g) ∧ InvX S' m) := by
  subst hx
  unfold dCl
  refine Sp.of dk_SB_digestOfClass ok_SB_digestOfClass rfl (g_ld rfl rfl rfl (g_stl rfl rfl rfl rfl rfl rfl (g_c rfl rfl (g_st rfl rfl rfl rfl rfl ?_))))
  exact lp_dgC1 h hm _ (lp_dgC2 hm hc _ 0 _ S none h (by omega)) 6 0 g (by omega) rfl
end
