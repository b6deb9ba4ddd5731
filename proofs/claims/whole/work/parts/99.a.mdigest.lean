/-! the reference: digest -/
def HX (S : zS) (m : Mt) (a : Int64) : Prop := InvM S m ∧ S.2 0 = a
section
variable {l : Launch} {D : va_G} {ad : Nat → Nat} {cA : ClassId} {x y z w : Int32} {S S' S0 : zS} {m : Mt} {n p k r c j s o b i N : Nat} {a : Int64}
theorem s_say {g : Int64} : Sp (l, wM, D, ad, cA) 0 m_M_say [.ref 0, .long g] S (fun v S' => v = .null ∧ S' = z_ul S 0 (31 * S.2 0 + g)) := by
  refine Sp.of dk_M_say ok_M_say rfl (g_ld rfl rfl rfl (g_c rfl rfl (g_ld rfl rfl rfl (g_gl rfl rfl rfl rfl rfl (g_bin rfl rfl (g_ld rfl rfl rfl (g_bin rfl rfl (g_pl rfl rfl rfl rfl rfl rfl rfl ho_M (g_rv rfl rfl ?_)))))))))
  exact ⟨rfl, rfl⟩
theorem HX.say {g : Int64} (h : HX S m a) : HX (z_ul S 0 (31 * S.2 0 + g)) m (31 * a + g) := ⟨h.1.sc ⟨fun _ _ => rfl, fun _ _ => rfl⟩, by rw [h.2]; simp [z_ul]⟩
theorem HX.am {ks fs : List Nat} (h : HX S m a) (hA : Am ks fs S S') (hk : ∀ k ∈ ks, k ∈ [2, 3, 4, 5, 15, 16, 17, 18, 19, 20, 21] := by decide) (hf : ∀ k ∈ fs, k ∈ [2, 3, 4, 5, 24, 25, 27, 31, 36] := by decide) : HX S' m a := ⟨h.1.sc (hA.sc hk hf), by rw [hA.2.2]; exact h.2⟩
theorem lp_sc1 (hm : MOk m) (hc : c < bN (mB m)) {Post : Value → zS → Prop} {w3 : Option Value} {F : Int64} (K : ∀ T, HX T m F → Go (l, wM, D, ad, cA) 5 m_M_sayClass Post 25 [some (.ref 0), some (.int (nI c)), some (.int 6), w3] [] T) : ∀ (k i : Nat) (a : Int64) (S : zS), i + k = 6 → dgF (fun i => v_about m (nI c) (nI i)) k i a = F → HX S m a → Go (l, wM, D, ad, cA) 5 m_M_sayClass Post 2 [some (.ref 0), some (.int (nI c)), some (.int (nI i)), w3] [] S
  | 0, i, a, S, e, hF, h => by
    have e8 : i = 6 := by omega
    subst e8
    rw [dgF] at hF
    rw [hF] at h
    refine (g_ld rfl rfl rfl (g_c rfl rfl (g_if rfl rfl (fun zc5 => ?_) (fun zc5 => ?_))))
    · exact K S h
    · exact absurd (by decide) zc5
  | k + 1, i, a, S, e, hF, h => by
    refine (g_ld rfl rfl rfl (g_c rfl rfl (g_if rfl rfl (fun zc5 => ?_) (fun zc5 => (g_ld rfl rfl rfl (g_ld rfl rfl rfl (g_ld rfl rfl rfl (g_ld rfl rfl rfl (g_cv rfl (s_tellClass h.1 hm hc) (by omega) rfl rfl rfl rfl rfl rfl rfl rfl rfl (z_k1 (g_un rfl rfl (g_cv rfl (s_say) (by omega) rfl rfl rfl rfl rfl rfl rfl rfl rfl (fun zv16 zS16 zh16 => ?_)))))))))))))
    · have := le_n (a := 6) zc5
      omega
    · obtain ⟨rfl, rfl⟩ := zh16
      refine (g_inc rfl rfl rfl rfl (g_go rfl ?_))
      rw [dgF] at hF
      have := lp_sc1 hm hc K k (i + 1) _ _ (by omega) hF h.say
      rw [nI_succ] at this
      exact this
theorem lp_sc3 (hm : MOk m) (hc : c < bN (mB m)) (hj : j < bM (mB m) c) {Post : Value → zS → Prop} {F : Int64} (K : ∀ T, HX T m F → Go (l, wM, D, ad, cA) 5 m_M_sayClass Post 63 [some (.ref 0), some (.int (nI c)), some (.int (nI j)), some (.int 6)] [] T) : ∀ (k i : Nat) (a : Int64) (S : zS), i + k = 6 → dgF (fun i => v_member m (nI c) (nI j) (nI i)) k i a = F → HX S m a → Go (l, wM, D, ad, cA) 5 m_M_sayClass Post 39 [some (.ref 0), some (.int (nI c)), some (.int (nI j)), some (.int (nI i))] [] S
  | 0, i, a, S, e, hF, h => by
    have e8 : i = 6 := by omega
    subst e8
    rw [dgF] at hF
    rw [hF] at h
    refine (g_ld rfl rfl rfl (g_c rfl rfl (g_if rfl rfl (fun zc42 => ?_) (fun zc42 => ?_))))
    · exact K S h
    · exact absurd (by decide) zc42
  | k + 1, i, a, S, e, hF, h => by
    refine (g_ld rfl rfl rfl (g_c rfl rfl (g_if rfl rfl (fun zc42 => ?_) (fun zc42 => (g_ld rfl rfl rfl (g_ld rfl rfl rfl (g_ld rfl rfl rfl (g_ld rfl rfl rfl (g_ld rfl rfl rfl (g_cv rfl (s_tellMember h.1 hm hc hj) (by omega) rfl rfl rfl rfl rfl rfl rfl rfl rfl (fun zv50 zS50 zh50 => ?_)))))))))))
    · have := le_n (a := 6) zc42
      omega
    · obtain ⟨rfl, hA⟩ := zh50
      refine (g_un rfl rfl (g_cv rfl (s_say) (by omega) rfl rfl rfl rfl rfl rfl rfl rfl rfl (fun zv54 zS54 zh54 => ?_)))
      obtain ⟨rfl, rfl⟩ := zh54
      refine (g_inc rfl rfl rfl rfl (g_go rfl ?_))
      rw [dgF] at hF
      have := lp_sc3 hm hc hj K k (i + 1) _ _ (by omega) hF (h.am hA).say
      rw [nI_succ] at this
      exact this
theorem lp_sc2 (hm : MOk m) (hc : c < bN (mB m)) {F : Int64} : ∀ (k j : Nat) (a : Int64) (S : zS) (w3 : Option Value), j + k = bM (mB m) c → dMs m c k j a = F → HX S m a → Go (l, wM, D, ad, cA) 5 m_M_sayClass (fun v S' => v = .null ∧ HX S' m F) 27 [some (.ref 0), some (.int (nI c)), some (.int (nI j)), w3] [] S
  | 0, j, a, S, w3, e, hF, h => by
    have h4 := hm.2.2.1.1
    have h3 := hm.2.2.1.2.2.2.1 c
    rw [dMs] at hF
    rw [hF] at h
    refine (g_ld rfl rfl rfl (g_ld rfl rfl rfl (g_gr rfl rfl rfl rfl rfl (g_ld rfl rfl rfl (g_ald rfl rfl rfl ?_ (g_if rfl rfl (fun zc34 => (g_rv rfl rfl ?_)) (fun zc34 => ?_)))))))
    · exact vp_in_nI (show c < 4 by omega) (by decide)
    · exact ⟨rfl, h⟩
    · rw [nI_clamp (by omega), h.1.2.2.1.2.2.1 c hc] at zc34
      have := nle_n zc34
      omega
  | k + 1, j, a, S, w3, e, hF, h => by
    have h4 := hm.2.2.1.1
    have h3 := hm.2.2.1.2.2.2.1 c
    refine (g_ld rfl rfl rfl (g_ld rfl rfl rfl (g_gr rfl rfl rfl rfl rfl (g_ld rfl rfl rfl (g_ald rfl rfl rfl ?_ (g_if rfl rfl (fun zc34 => (g_rv rfl rfl ?_)) (fun zc34 => (g_c rfl rfl (g_st rfl rfl rfl rfl rfl ?_)))))))))
    · exact vp_in_nI (show c < 4 by omega) (by decide)
    · rw [nI_clamp (by omega), h.1.2.2.1.2.2.1 c hc] at zc34
      have := le_n zc34
      omega
    · rw [dMs] at hF
      refine lp_sc3 hm hc (j := j) (by omega) (fun T hT => ?_) 6 0 a S (by omega) rfl h
      refine (g_inc rfl rfl rfl rfl (g_go rfl ?_))
      have := lp_sc2 hm hc k (j + 1) _ T (some (.int 6)) (by omega) hF hT
      rw [nI_succ] at this
      exact this
theorem s_sayClass (h : HX S m a) (hm : MOk m) (hc : c < bN (mB m)) : Sp (l, wM, D, ad, cA) 5 m_M_sayClass [.ref 0, .int (nI c)] S (fun v S' => v = .null ∧ HX S' m (dCl m c a)) := by
  refine Sp.of dk_M_sayClass ok_M_sayClass rfl (g_c rfl rfl (g_st rfl rfl rfl rfl rfl ?_))
  refine lp_sc1 hm hc (fun T hT => ?_) 6 0 a S (by omega) rfl h
  refine (g_c rfl rfl (g_st rfl rfl rfl rfl rfl ?_))
  exact lp_sc2 hm hc (bM (mB m) c) 0 _ T none (by omega) rfl hT
theorem lp_md5 (hm : MOk m) {F : Int64} : ∀ (k i : Nat) (a : Int64) (S : zS) (w2 : Option Value), i + k = 11 → dgF (fun i => v_count m (nI i)) k i a = F → HX S m a → Go (l, wM, D, ad, cA) 6 m_M_digest (fun v S' => v = .long F ∧ InvM S' m) 159 [some (.ref 0), some (.int (nI i)), w2] [] S
  | 0, i, a, S, w2, e, hF, h => by
    have e8 : i = 11 := by omega
    subst e8
    rw [dgF] at hF
    refine (g_ld rfl rfl rfl (g_c rfl rfl (g_if rfl rfl (fun zc162 => (g_ld rfl rfl rfl (g_gl rfl rfl rfl rfl rfl (g_rl rfl rfl ?_)))) (fun zc162 => ?_))))
    · exact ⟨by rw [h.2, hF], h.1⟩
    · exact absurd (by decide) zc162
  | k + 1, i, a, S, w2, e, hF, h => by
    refine (g_ld rfl rfl rfl (g_c rfl rfl (g_if rfl rfl (fun zc162 => (g_ld rfl rfl rfl (g_gl rfl rfl rfl rfl rfl (g_rl rfl rfl ?_)))) (fun zc162 => (g_ld rfl rfl rfl (g_ld rfl rfl rfl (g_ld rfl rfl rfl (g_cv rfl (y_countOf h.1 hm) (by omega) rfl rfl rfl rfl rfl rfl rfl rfl rfl (z_k1 (g_un rfl rfl (g_cv rfl (s_say) (by omega) rfl rfl rfl rfl rfl rfl rfl rfl rfl (fun zv172 zS172 zh172 => ?_))))))))))))
    · have := le_n (a := 11) zc162
      omega
    · obtain ⟨rfl, rfl⟩ := zh172
      refine (g_inc rfl rfl rfl rfl (g_go rfl ?_))
      rw [dgF] at hF
      have := lp_md5 hm k (i + 1) _ _ w2 (by omega) hF h.say
      rw [nI_succ] at this
      exact this
theorem lp_md4 (hm : MOk m) {Post : Value → zS → Prop} {F : Int64} {w2 : Option Value} (K : ∀ T w1, HX T m F → Go (l, wM, D, ad, cA) 6 m_M_digest Post 157 [some (.ref 0), w1, w2] [] T) : ∀ (k i : Nat) (a : Int64) (S : zS), i + k = (mP m).length → dgF (fun i => nI ((mP m).getD i 0)) k i a = F → HX S m a → Go (l, wM, D, ad, cA) 6 m_M_digest Post 132 [some (.ref 0), some (.int (nI i)), w2] [] S
  | 0, i, a, S, e, hF, h => by
    have h90 := hm.1
    rw [dgF] at hF
    rw [hF] at h
    refine (g_ld rfl rfl rfl (g_ld rfl rfl rfl (g_gi rfl rfl rfl rfl rfl (g_if rfl rfl (fun zc137 => ?_) (fun zc137 => ?_)))))
    · exact K S _ h
    · rw [h.1.1] at zc137
      have := nle_n zc137
      omega
  | k + 1, i, a, S, e, hF, h => by
    have h90 := hm.1
    have r1 : S.1 1 (nI i).toNatClampNeg = nI ((mP m).getD i 0) := by
      rw [nI_clamp (by omega)]
      have := h.1.2.1 i (by omega)
      rw [Nat.zero_add] at this
      exact this
    refine (g_ld rfl rfl rfl (g_ld rfl rfl rfl (g_gi rfl rfl rfl rfl rfl (g_if rfl rfl (fun zc137 => ?_) (fun zc137 => (g_ld rfl rfl rfl (g_ld rfl rfl rfl (g_gr rfl rfl rfl rfl rfl (g_ld rfl rfl rfl (g_ald rfl rfl rfl ?_ (g_un rfl rfl (g_cv rfl (s_say) (by omega) rfl rfl rfl rfl rfl rfl rfl rfl rfl (fun zv148 zS148 zh148 => ?_)))))))))))))
    · rw [h.1.1] at zc137
      have := le_n zc137
      omega
    · exact vp_in_nI (show i < 90 by omega) (by decide)
    · obtain ⟨rfl, rfl⟩ := zh148
      rw [r1]
      refine (g_inc rfl rfl rfl rfl (g_go rfl ?_))
      rw [dgF] at hF
      have := lp_md4 hm K k (i + 1) _ _ (by omega) hF h.say
      rw [nI_succ] at this
      exact this
theorem md4 (hm : MOk m) (h : HX S m a) {w2 : Option Value} : Go (l, wM, D, ad, cA) 6 m_M_digest (fun v S' => v = .long (d5 m (d4 m a)) ∧ InvM S' m) 132 [some (.ref 0), some (.int 0), w2] [] S := by
  refine lp_md4 hm (fun T w1 hT => ?_) (mP m).length 0 a S (by omega) rfl h
  refine (g_c rfl rfl (g_st rfl rfl rfl rfl rfl ?_))
  exact lp_md5 hm 11 0 _ T w2 (by omega) rfl hT
/-- from 114 on: rounds, page, counts -/
theorem md3 (hm : MOk m) (h : HX S m a) {w1 w2 : Option Value} : Go (l, wM, D, ad, cA) 6 m_M_digest (fun v S' => v = .long (d5 m (d4 m (d3 m a))) ∧ InvM S' m) 114 [some (.ref 0), w1, w2] [] S := by
  have h4 := hm.2.2.1.1
  unfold d3
  refine (g_ld rfl rfl rfl (g_gi rfl rfl rfl rfl rfl (g_if rfl rfl (fun zc118 => ?_) (fun zc118 => (g_ld rfl rfl rfl (g_ld rfl rfl rfl (g_gi rfl rfl rfl rfl rfl (g_un rfl rfl (g_cv rfl (s_say) (by omega) rfl rfl rfl rfl rfl rfl rfl rfl rfl (fun zv127 zS127 zh127 => ?_))))))))))
  · rw [h.1.2.2.1.1] at zc118
    have e0 : bN (mB m) = 0 := by
      have := le_n (b := 0) zc118
      omega
    rw [if_pos e0]
    refine (g_c rfl rfl (g_st rfl rfl rfl rfl rfl ?_))
    exact md4 hm h
  · obtain ⟨rfl, rfl⟩ := zh127
    rw [h.1.2.2.1.1] at zc118
    have e0 : ¬ bN (mB m) = 0 := fun e => zc118 (by rw [e]; decide)
    rw [if_neg e0]
    have ev : v_rounds m = S.1 0 22 := by unfold v_rounds; rw [if_neg e0, h.1.2.2.2.2.2.1]
    rw [ev]
    refine (g_c rfl rfl (g_st rfl rfl rfl rfl rfl ?_))
    exact md4 hm h.say
theorem md2 (hm : MOk m) (h : HX S m a) {w1 w2 : Option Value} : Go (l, wM, D, ad, cA) 6 m_M_digest (fun v S' => v = .long (d5 m (d4 m (d3 m (d2 m a)))) ∧ InvM S' m) 87 [some (.ref 0), w1, w2] [] S := by
  unfold d2
  refine (g_ld rfl rfl rfl (g_c rfl rfl (g_cv rfl (s_isFull h.1) (by omega) rfl rfl rfl rfl rfl rfl rfl rfl rfl (z_k1 (g_if rfl rfl (fun zc92 => ?_) (fun zc92 => (g_ld rfl rfl rfl (g_c rfl rfl (g_cv rfl (s_isFull h.1) (by omega) rfl rfl rfl rfl rfl rfl rfl rfl rfl (z_k1 (g_if rfl rfl (fun zc100 => ?_) (fun zc100 => (g_ld rfl rfl rfl (g_ld rfl rfl rfl (g_c rfl rfl (g_c rfl rfl (g_cv rfl (y_suits h.1 hm) (by omega) rfl rfl rfl rfl rfl rfl rfl rfl rfl (fun zv107 zS107 zh107 => ?_))))))))))))))))))
  · rw [if_neg (fun q => b2_0.mp zc92 q.1)]
    exact md3 hm h
  · rw [if_neg (fun q => b2_0.mp zc100 q.2)]
    exact md3 hm h
  · rw [if_pos ⟨b2_n.mp zc92, b2_n.mp zc100⟩]
    obtain ⟨rfl, hI, hS2⟩ := zh107
    refine (g_un rfl rfl (g_cv rfl (s_say) (by omega) rfl rfl rfl rfl rfl rfl rfl rfl rfl (fun zv111 zS111 zh111 => ?_)))
    obtain ⟨rfl, rfl⟩ := zh111
    exact md3 hm (HX.say ⟨hI, by rw [hS2]; exact h.2⟩)
theorem lp_md1i (hm : MOk m) (hs : s < 8) {Post : Value → zS → Prop} {F : Int64} (K : ∀ T w2, HX T m F → Go (l, wM, D, ad, cA) 6 m_M_digest Post 81 [some (.ref 0), some (.int (nI s)), w2] [] T) : ∀ (k i : Nat) (a : Int64) (S : zS), i + k = (mS m s).length → dgF (fun i => nI ((mS m s).getD i 0)) k i a = F → HX S m a → Go (l, wM, D, ad, cA) 6 m_M_digest Post 49 [some (.ref 0), some (.int (nI s)), some (.int (nI i))] [] S
  | 0, i, a, S, e, hF, h => by
    have h15 : (mS m s).length ≤ 15 := hm.2.2.2.1.l15 s hs
    rw [dgF] at hF
    rw [hF] at h
    have r12 : S.1 12 (nI s).toNatClampNeg = nI (mS m s).length := by rw [nI_clamp (by omega)]; exact (h.1.2.2.2.1.2.1 s hs).1
    refine (g_ld rfl rfl rfl (g_ld rfl rfl rfl (g_gr rfl rfl rfl rfl rfl (g_ld rfl rfl rfl (g_ald rfl rfl rfl ?_ (g_if rfl rfl (fun zc56 => ?_) (fun zc56 => ?_)))))))
    · exact vp_in_nI hs (by decide)
    · exact K S _ h
    · rw [r12] at zc56
      have := nle_n zc56
      omega
  | k + 1, i, a, S, e, hF, h => by
    have h15 : (mS m s).length ≤ 15 := hm.2.2.2.1.l15 s hs
    have r12 : S.1 12 (nI s).toNatClampNeg = nI (mS m s).length := by rw [nI_clamp (by omega)]; exact (h.1.2.2.2.1.2.1 s hs).1
    have r13 : S.1 13 (16 * nI s + nI i).toNatClampNeg = nI ((mS m s).getD i 0) := by
      rw [e16, nI_clamp (by omega)]
      exact (h.1.2.2.2.1.2.1 s hs).2 i (by show i < (mS m s).length; omega)
    refine (g_ld rfl rfl rfl (g_ld rfl rfl rfl (g_gr rfl rfl rfl rfl rfl (g_ld rfl rfl rfl (g_ald rfl rfl rfl ?_ (g_if rfl rfl (fun zc56 => ?_) (fun zc56 => (g_ld rfl rfl rfl (g_ld rfl rfl rfl (g_gr rfl rfl rfl rfl rfl (g_c rfl rfl (g_ld rfl rfl rfl (g_bin rfl rfl (g_ld rfl rfl rfl (g_bin rfl rfl (g_ald rfl rfl rfl ?_ (g_un rfl rfl (g_cv rfl (s_say) (by omega) rfl rfl rfl rfl rfl rfl rfl rfl rfl (fun zv72 zS72 zh72 => ?_)))))))))))))))))))
    · exact vp_in_nI hs (by decide)
    · rw [r12] at zc56
      have := le_n zc56
      omega
    · rw [e16]; exact vp_in_nI (show 16 * s + i < 128 by omega) (by decide)
    · obtain ⟨rfl, rfl⟩ := zh72
      rw [r13]
      refine (g_inc rfl rfl rfl rfl (g_go rfl ?_))
      rw [dgF] at hF
      have := lp_md1i hm hs K k (i + 1) _ _ (by omega) hF h.say
      rw [nI_succ i] at this
      exact this
theorem lp_md1 (hm : MOk m) : ∀ (k s : Nat) (a : Int64) (S : zS) (w2 : Option Value), s + k = 8 → HX S m a → Go (l, wM, D, ad, cA) 6 m_M_digest (fun v S' => v = .long (d5 m (d4 m (d3 m (d2 m (dSlS m k s a))))) ∧ InvM S' m) 30 [some (.ref 0), some (.int (nI s)), w2] [] S
  | 0, s, a, S, w2, e, h => by
    have e8 : s = 8 := by omega
    subst e8
    rw [dSlS]
    refine (g_ld rfl rfl rfl (g_c rfl rfl (g_if rfl rfl (fun zc33 => ?_) (fun zc33 => ?_))))
    · exact md2 hm h
    · exact absurd (by decide) zc33
  | k + 1, s, a, S, w2, e, h => by
    have hs : s < 8 := by omega
    have r12 : S.1 12 (nI s).toNatClampNeg = nI (mS m s).length := by rw [nI_clamp (by omega)]; exact (h.1.2.2.2.1.2.1 s hs).1
    rw [dSlS]
    refine (g_ld rfl rfl rfl (g_c rfl rfl (g_if rfl rfl (fun zc33 => ?_) (fun zc33 => (g_ld rfl rfl rfl (g_ld rfl rfl rfl (g_gr rfl rfl rfl rfl rfl (g_ld rfl rfl rfl (g_ald rfl rfl rfl ?_ (g_un rfl rfl (g_cv rfl (s_say) (by omega) rfl rfl rfl rfl rfl rfl rfl rfl rfl (fun zv44 zS44 zh44 => ?_))))))))))))
    · have := le_n (a := 8) zc33
      omega
    · exact vp_in_nI hs (by decide)
    · obtain ⟨rfl, rfl⟩ := zh44
      rw [r12]
      refine (g_c rfl rfl (g_st rfl rfl rfl rfl rfl ?_))
      refine lp_md1i hm hs (fun T w2 hT => ?_) (mS m s).length 0 _ _ (by omega) rfl h.say
      refine (g_inc rfl rfl rfl rfl (g_go rfl ?_))
      have := lp_md1 hm k (s + 1) (dSl m s a) T w2 (by omega) hT
      rw [nI_succ] at this
      exact this
theorem lp_md0 (hm : MOk m) : ∀ (k c : Nat) (a : Int64) (S : zS), c + k = bN (mB m) → HX S m a → Go (l, wM, D, ad, cA) 6 m_M_digest (fun v S' => v = .long (d5 m (d4 m (d3 m (d2 m (dSlS m 8 0 (dClS m k c a)))))) ∧ InvM S' m) 9 [some (.ref 0), some (.int (nI c)), none] [] S
  | 0, c, a, S, e, h => by
    have h4 := hm.2.2.1.1
    rw [dClS]
    refine (g_ld rfl rfl rfl (g_ld rfl rfl rfl (g_gi rfl rfl rfl rfl rfl (g_if rfl rfl (fun zc14 => (g_c rfl rfl (g_st rfl rfl rfl rfl rfl ?_))) (fun zc14 => ?_)))))
    · exact lp_md1 hm 8 0 a S none (by omega) h
    · rw [h.1.2.2.1.1] at zc14
      have := nle_n zc14
      omega
  | k + 1, c, a, S, e, h => by
    have h4 := hm.2.2.1.1
    rw [dClS]
    refine (g_ld rfl rfl rfl (g_ld rfl rfl rfl (g_gi rfl rfl rfl rfl rfl (g_if rfl rfl (fun zc14 => ?_) (fun zc14 => ?_)))))
    · rw [h.1.2.2.1.1] at zc14
      have := le_n zc14
      omega
    · refine (g_ld rfl rfl rfl (g_ld rfl rfl rfl (g_cv rfl (s_sayClass h hm (c := c) (by omega)) (by omega) rfl rfl rfl rfl rfl rfl rfl rfl rfl (fun zv19 zS19 zh19 => ?_))))
      obtain ⟨rfl, hT⟩ := zh19
      refine (g_inc rfl rfl rfl rfl (g_go rfl ?_))
      have := lp_md0 hm k (c + 1) (dCl m c a) zS19 (by omega) hT
      rw [nI_succ] at this
      exact this
theorem y_digest (h : InvM S m) (hm : MOk m) : Sp (l, wM, D, ad, cA) 6 m_M_digest [.ref 0] S (fun v S' => v = .long (v_digest m) ∧ InvM S' m) := by
  refine Sp.of dk_M_digest ok_M_digest rfl (g_ld rfl rfl rfl (g_c rfl rfl (g_pl rfl rfl rfl rfl rfl rfl rfl ho_M (g_c rfl rfl (g_st rfl rfl rfl rfl rfl ?_)))))
  exact lp_md0 hm (bN (mB m)) 0 1381 _ (by omega) ⟨h.sc ⟨fun _ _ => rfl, fun _ _ => rfl⟩, by simp [z_ul]⟩
end
