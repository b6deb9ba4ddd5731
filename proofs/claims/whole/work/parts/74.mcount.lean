/-! the reference: about, count -/
def goK (V P : Nat → Nat) (t : Nat) : Nat → Nat
  | 0 => 0
  | k + 1 => goK V P t k + (if k % 2 < P (k / 2) ∧ V k = t then 1 else 0)
theorem goK_eq {V P : Nat → Nat} {t : Nat} (hP : ∀ k, P k ≤ 2) : ∀ n, goK V P t (2 * n) = goC V P t n
  | 0 => rfl
  | n + 1 => by
    have ih := goK_eq (V := V) (t := t) hP n
    have e : 2 * (n + 1) = 2 * n + 1 + 1 := by omega
    rw [e, goK, goK, goC, ih, show (2 * n + 1) % 2 = 1 by omega, show (2 * n + 1) / 2 = n by omega, show (2 * n) % 2 = 0 by omega, show (2 * n) / 2 = n by omega]
    have h2 := hP n
    rcases (show P n = 0 ∨ P n = 1 ∨ P n = 2 by omega) with h | h | h
    · rw [h, if_neg (fun q => absurd q.1 (by omega)), if_neg (fun q => absurd q.1 (by omega))]
      rfl
    · rw [h, if_neg (show ¬ (1 < 1 ∧ V (2 * n + 1) = t) from fun q => absurd q.1 (by omega))]
      show _ = _ + (0 + (if V (2 * n + 0) = t then 1 else 0))
      by_cases hv : V (2 * n) = t
      · rw [if_pos ⟨by omega, hv⟩, if_pos (show V (2 * n + 0) = t from hv)]
      · rw [if_neg (fun q => hv q.2), if_neg (show ¬ V (2 * n + 0) = t from hv)]
    · rw [h]
      show _ = _ + (0 + (if V (2 * n + 0) = t then 1 else 0) + (if V (2 * n + 1) = t then 1 else 0))
      by_cases hv : V (2 * n) = t
      · rw [if_pos (show 0 < 2 ∧ V (2 * n) = t from ⟨by omega, hv⟩), if_pos (show V (2 * n + 0) = t from hv)]
        by_cases hw : V (2 * n + 1) = t
        · rw [if_pos (show 1 < 2 ∧ V (2 * n + 1) = t from ⟨by omega, hw⟩), if_pos hw]
        · rw [if_neg (fun q => hw q.2), if_neg hw]
      · rw [if_neg (fun q => hv q.2), if_neg (show ¬ V (2 * n + 0) = t from hv)]
        by_cases hw : V (2 * n + 1) = t
        · rw [if_pos (show 1 < 2 ∧ V (2 * n + 1) = t from ⟨by omega, hw⟩), if_pos hw]
        · rw [if_neg (fun q => hw q.2), if_neg hw]
theorem div2 : ∀ k, k < 8 → nI k / 2 = nI (k / 2) ∧ nI k - nI k / 2 * 2 = nI (k % 2) := by decide
theorem ab_lt {B : Bk} (hW : WfB B) {c : Nat} (hc : c < 4) : (bT B (12 + c) = [] ∧ abI B c = -1) ∨ ∃ a as, bT B (12 + c) = a :: as ∧ a < c ∧ c < bN B ∧ abI B c = nI a ∧ nI a ≠ -1 := by
  rcases hW.2.2.2.2.2 c hc with e | e
  · left
    refine ⟨e, ?_⟩
    unfold abI
    rw [e]
  · right
    obtain ⟨hcn, -, b, bs, e', hb, -⟩ := e
    refine ⟨b, bs, e', hb, hcn, ?_, ?_⟩
    · unfold abI; rw [e']
    · have : ∀ b, b < 4 → nI b ≠ -1 := by decide
      exact this b (by omega)
section
variable {l : Launch} {D : va_G} {ad : Nat → Nat} {cA : ClassId} {x y z w : Int32} {S S' S0 : zS} {m : Mt} {B : Bk} {n p k r q c t : Nat}
theorem lp_chain (hB : BkM S B) (hW : WfB B) {w1 : Int32} : ∀ (k c a : Nat), c < k → c < bN B → Go (l, wM, D, ad, cA) 0 m_M_chainOf (fun v S' => v = .int (nI (a + chn B k c)) ∧ S' = S) 9 [some (.ref 0), some (.int w1), some (.int (nI a)), some (.int (abI B c))] [] S
  | 0, c, a, h, _ => absurd h (Nat.not_lt_zero _)
  | k + 1, c, a, h, hc => by
    have h4 := hW.1
    rcases ab_lt hW (c := c) (by omega) with ⟨e1, e2⟩ | ⟨b, bs, e1, hb, -, e2, e3⟩
    · have ec : chn B (k + 1) c = 0 := by rw [chn, e1]
      rw [e2, ec]
      refine (g_ld rfl rfl rfl (g_c rfl rfl (g_if rfl rfl (fun zc11 => (g_ld rfl rfl rfl (g_ri rfl rfl rfl ?_))) (fun zc11 => ?_))))
      · exact ⟨rfl, rfl⟩
      · exact absurd rfl zc11
    · have ec : chn B (k + 1) c = 1 + chn B k b := by rw [chn, e1]
      rw [e2, ec]
      refine (g_ld rfl rfl rfl (g_c rfl rfl (g_if rfl rfl (fun zc11 => (g_ld rfl rfl rfl (g_ri rfl rfl rfl ?_))) (fun zc11 => (g_inc rfl rfl rfl rfl (g_ld rfl rfl rfl (g_gr rfl rfl rfl rfl rfl (g_ld rfl rfl rfl (g_ald rfl rfl rfl ?_ (g_st rfl rfl rfl rfl rfl (g_go rfl ?_)))))))))))
      · exact absurd zc11 e3
      · exact vp_in_nI (show b < 4 by omega) (by decide)
      · rw [nI_clamp (by omega), hB.2.2.2.1 b (by omega)]
        have := lp_chain hB hW (w1 := w1) k b (a + 1) (by omega) (by omega)
        rw [nI_succ, show a + 1 + chn B k b = a + (1 + chn B k b) by omega] at this
        exact this
theorem s_chainOf (hB : BkM S B) (hW : WfB B) (hc : c < bN B) : Sp (l, wM, D, ad, cA) 0 m_M_chainOf [.ref 0, .int (nI c)] S (fun v S' => v = .int (nI (chn B 4 c)) ∧ S' = S) := by
  have h4 := hW.1
  refine Sp.of dk_M_chainOf ok_M_chainOf rfl (g_c rfl rfl (g_st rfl rfl rfl rfl rfl (g_ld rfl rfl rfl (g_gr rfl rfl rfl rfl rfl (g_ld rfl rfl rfl (g_ald rfl rfl rfl ?_ (g_st rfl rfl rfl rfl rfl ?_)))))))
  · exact vp_in_nI (show c < 4 by omega) (by decide)
  · rw [nI_clamp (by omega), hB.2.2.2.1 c hc]
    have := lp_chain (l := l) (D := D) (ad := ad) (cA := cA) hB hW (w1 := nI c) 4 c 0 (by omega) hc
    rw [Nat.zero_add] at this
    exact this
theorem gW_M (h : InvM S m) (hm : MOk m) (hc : c < bN (mB m)) {p : Nat} (hp : p < 2) : gW m (nI c) (nI p) = if p < bP (mB m) c then nI (wy (mB m) (mK m) (2 * c + p)) else -1 := by
  have h4 := hm.2.2.1.1
  have hP2 := hm.2.2.1.2.1 c
  have e : gP m (nI c) = nI (bP (mB m) c) := by unfold gP; rw [if_pos (in4 (by omega)), nI_clamp (by omega)]
  unfold gW
  rw [e]
  by_cases g : p < bP (mB m) c
  · rw [if_pos g, if_pos ⟨(in_n (n := 2) hp (by omega)).1, nI_lt g (by omega)⟩, nI_clamp (by omega), nI_clamp (by omega)]
  · rw [if_neg g, if_neg (fun q => g (lt_n q.2))]
theorem s_tellClass (h : InvM S m) (hm : MOk m) (hc : c < bN (mB m)) : Sp (l, wM, D, ad, cA) 1 m_M_tellClass [.ref 0, .int (nI c), .int y] S (fun v S' => v = .int (v_about m (nI c) y) ∧ S' = S) := by
  have h4 := hm.2.2.1.1
  have hP2 := hm.2.2.1.2.1 c
  have hin : vp_in (nI c) 4 := vp_in_nI (show c < 4 by omega) (by decide)
  have hcl : isCl m (nI c) := ⟨(in4 (k := c) (by omega)).1, nI_lt hc (by omega), (in4 (k := c) (by omega)).2⟩
  have hgP : gP m (nI c) = nI (bP (mB m) c) := by unfold gP; rw [if_pos (in4 (by omega)), nI_clamp (by omega)]
  have hgM : gM m (nI c) = nI (bM (mB m) c) := by unfold gM; rw [if_pos (in4 (by omega)), nI_clamp (by omega)]
  unfold v_about
  rw [if_pos hcl, nI_clamp (by omega)]
  refine Sp.of dk_M_tellClass ok_M_tellClass rfl (g_ld rfl rfl rfl ?_)
  by_cases hy : 0 ≤ y ∧ y < 6
  · obtain ⟨j, hj, rfl, -⟩ := in_cl (n := 6) hy.1 hy.2
    have h6 : j = 0 ∨ j = 1 ∨ j = 2 ∨ j = 3 ∨ j = 4 ∨ j = 5 := by omega
    rcases h6 with e | e | e | e | e | e
    · subst e
      rw [if_pos (by decide)]
      refine g_tin (off := 39) (tgt := 40) rfl (by decide) (by decide) (by decide) (by decide) (g_ld rfl rfl rfl (g_gr rfl rfl rfl rfl rfl (g_ld rfl rfl rfl (g_ald rfl rfl rfl ?_ (g_ri rfl rfl rfl ?_)))))
      · exact hin
      · rw [nI_clamp (by omega), h.2.2.1.2.1 c hc, hgP]; exact ⟨rfl, rfl⟩
    · subst e
      rw [if_neg (by decide), if_pos (by decide)]
      refine g_tin (off := 46) (tgt := 47) rfl (by decide) (by decide) (by decide) (by decide) (g_ld rfl rfl rfl (g_gr rfl rfl rfl rfl rfl (g_ld rfl rfl rfl (g_ald rfl rfl rfl ?_ (g_ri rfl rfl rfl ?_)))))
      · exact hin
      · rw [nI_clamp (by omega), h.2.2.1.2.2.2.1 c hc]; exact ⟨rfl, rfl⟩
    · subst e
      rw [if_neg (by decide), if_neg (by decide), if_pos (by decide)]
      refine g_tin (off := 53) (tgt := 54) rfl (by decide) (by decide) (by decide) (by decide) (g_ld rfl rfl rfl (g_gr rfl rfl rfl rfl rfl (g_ld rfl rfl rfl (g_ald rfl rfl rfl ?_ (g_ri rfl rfl rfl ?_)))))
      · exact hin
      · rw [nI_clamp (by omega), h.2.2.1.2.2.1 c hc, hgM]; exact ⟨rfl, rfl⟩
    · subst e
      have hw := gW_M h hm hc (p := 0) (by omega)
      rw [if_neg (by decide), if_neg (by decide), if_neg (by decide), if_pos (by decide)]
      refine g_tin (off := 60) (tgt := 61) rfl (by decide) (by decide) (by decide) (by decide) (g_ld rfl rfl rfl (g_gr rfl rfl rfl rfl rfl (g_ld rfl rfl rfl (g_ald rfl rfl rfl ?_ (g_if rfl rfl (fun zc67 => (g_c rfl rfl (g_ri rfl rfl rfl ?_))) (fun zc67 => (g_ld rfl rfl rfl (g_gr rfl rfl rfl rfl rfl (g_c rfl rfl (g_ld rfl rfl rfl (g_bin rfl rfl (g_ald rfl rfl rfl ?_ (g_go rfl (g_ri rfl rfl rfl ?_))))))))))))))
      · exact hin
      · rw [nI_clamp (by omega), h.2.2.1.2.1 c hc] at zc67
        have g : ¬ 0 < bP (mB m) c := fun g => by
          have := le_n (b := 0) zc67
          omega
        rw [if_neg g] at hw
        exact ⟨congrArg Value.int hw.symm, rfl⟩
      · rw [show (2 : Int32) = nI 2 from rfl, pk_mul]
        exact vp_in_nI (show 2 * c < 8 by omega) (by decide)
      · rw [nI_clamp (by omega), h.2.2.1.2.1 c hc] at zc67
        have g : 0 < bP (mB m) c := nle_n (b := 0) zc67
        rw [if_pos g] at hw
        rw [show (2 : Int32) = nI 2 from rfl, pk_mul, nI_clamp (by omega), h.2.2.2.2.1 (2 * c) (by omega)]
        exact ⟨congrArg Value.int hw.symm, rfl⟩
    · subst e
      have hw := gW_M h hm hc (p := 1) (by omega)
      rw [if_neg (by decide), if_neg (by decide), if_neg (by decide), if_neg (by decide), if_pos (by decide)]
      refine g_tin (off := 82) (tgt := 83) rfl (by decide) (by decide) (by decide) (by decide) (g_ld rfl rfl rfl (g_gr rfl rfl rfl rfl rfl (g_ld rfl rfl rfl (g_ald rfl rfl rfl ?_ (g_c rfl rfl (g_if rfl rfl (fun zc90 => (g_c rfl rfl (g_ri rfl rfl rfl ?_))) (fun zc90 => (g_ld rfl rfl rfl (g_gr rfl rfl rfl rfl rfl (g_c rfl rfl (g_ld rfl rfl rfl (g_bin rfl rfl (g_c rfl rfl (g_bin rfl rfl (g_ald rfl rfl rfl ?_ (g_go rfl (g_ri rfl rfl rfl ?_)))))))))))))))))
      · exact hin
      · rw [nI_clamp (by omega), h.2.2.1.2.1 c hc] at zc90
        have g : ¬ 1 < bP (mB m) c := fun g => by
          have := le_n (b := 1) zc90
          omega
        rw [if_neg g] at hw
        exact ⟨congrArg Value.int hw.symm, rfl⟩
      · rw [show (2 : Int32) = nI 2 from rfl, pk_mul, ← nI_succ]
        exact vp_in_nI (show 2 * c + 1 < 8 by omega) (by decide)
      · rw [nI_clamp (by omega), h.2.2.1.2.1 c hc] at zc90
        have g : 1 < bP (mB m) c := nle_n (b := 1) zc90
        rw [if_pos g] at hw
        rw [show (2 : Int32) = nI 2 from rfl, pk_mul, ← nI_succ, nI_clamp (by omega), h.2.2.2.2.1 (2 * c + 1) (by omega)]
        exact ⟨congrArg Value.int hw.symm, rfl⟩
    · subst e
      rw [if_neg (by decide), if_neg (by decide), if_neg (by decide), if_neg (by decide), if_neg (by decide), if_pos (by decide)]
      refine g_tin (off := 107) (tgt := 108) rfl (by decide) (by decide) (by decide) (by decide) (g_ld rfl rfl rfl (g_ld rfl rfl rfl (g_cv rfl (s_chainOf h.2.2.1 hm.2.2.1 hc) (by omega) rfl rfl rfl rfl rfl rfl rfl rfl rfl (z_k1 (g_ri rfl rfl rfl ?_)))))
      exact ⟨rfl, rfl⟩
  · have hne : ∀ k : Int32, 0 ≤ k → k < 6 → ¬ y = k := fun k h1 h2 e => hy (by rw [e]; exact ⟨h1, h2⟩)
    rw [if_neg (hne 0 (by decide) (by decide)), if_neg (hne 1 (by decide) (by decide)), if_neg (hne 2 (by decide) (by decide)), if_neg (hne 3 (by decide) (by decide)), if_neg (hne 4 (by decide) (by decide)), if_neg (hne 5 (by decide) (by decide))]
    have ho : y.toInt < 0 ∨ 5 < y.toInt := by
      rw [Int32.le_iff_toInt_le, Int32.lt_iff_toInt_lt] at hy
      have e0 : (0 : Int32).toInt = 0 := by decide
      have e6 : (6 : Int32).toInt = 6 := by decide
      omega
    refine g_tout (tgt := 114) rfl ho (by decide) (g_c rfl rfl (g_ri rfl rfl rfl ?_))
    exact ⟨rfl, rfl⟩
theorem y_about (h : InvM S m) (hm : MOk m) : Sp (l, wM, D, ad, cA) 2 m_M_about [.ref 0, .int x, .int y] S (fun v S' => v = .int (v_about m x y) ∧ S' = S) := by
  have h4 := hm.2.2.1.1
  refine Sp.of dk_M_about ok_M_about rfl (g_ld rfl rfl rfl (g_ld rfl rfl rfl (g_cv rfl (s_isClassM h.2.2.1.1 hm.2.2.1.1) (by omega) rfl rfl rfl rfl rfl rfl rfl rfl rfl (z_k1 (g_if rfl rfl (fun zc5 => (g_c rfl rfl (g_ri rfl rfl rfl ?_))) (fun zc5 => ?_))))))
  · have a := b2_0.mp zc5
    unfold v_about
    rw [if_neg (fun q => a ⟨q.1, q.2.1⟩)]
    exact ⟨rfl, rfl⟩
  · have a := b2_n.mp zc5
    obtain ⟨c, hc, rfl, -⟩ := gM_in hm a
    refine (g_ld rfl rfl rfl (g_ld rfl rfl rfl (g_ld rfl rfl rfl (g_cv rfl (s_tellClass h hm hc) (by omega) rfl rfl rfl rfl rfl rfl rfl rfl rfl (z_k1 ?_)))))
    refine (g_go rfl (g_ri rfl rfl rfl ?_))
    exact ⟨rfl, rfl⟩
end
