/-! hide -/
noncomputable def mtA (m : Mt) : Nat → Int32
  | 0 => 0
  | i + 1 => if (mTl m i).1 = 0 ∧ (mTl m i).2 = 0 then mtA m i else mtA m i ||| ((1 : Int32) <<< (nI i &&& 31))
noncomputable def ftH (m : Mt) (c p : Nat) (t M : Int32) : Nat → Nat → Int32 → Int32 → Int32
  | 0, _, b, _ => b
  | k + 1, h, b, f => if nI h &&& (M ^^^ (-1)) = 0 ∧ f_bc (nI h) < f ∧ nI (wy (mB m) (kdh (mK m) h) (2 * c + p)) &&& t = 0 then ftH m c p t M k (h + 1) (nI h) (f_bc (nI h)) else ftH m c p t M k (h + 1) b f
section
variable {l : Launch} {D : va_G} {ad : Nat → Nat} {cA : ClassId} {x y z w : Int32} {S S' : zS} {m : Mt} {g : Int64}
theorem kind_at (h : InvX S m) {pl : Nat} (hpl : pl < 12) : f_kind S 18 (nI pl) = nI (mK m pl) := by
  unfold f_kind
  rw [if_pos (in12 hpl), nI_clamp (by omega)]
  exact h.2.2.2.1.1 pl hpl
theorem lp_mta (hm : MOk m) : ∀ (k i : Nat) (S : zS), InvX S m → i + k = 12 → Go (l, wX, D, ad, cA) 3 m_SB_membersThatAdd (fun v S' => v = .int (mtA m 12) ∧ InvX S' m) 4 [some (.ref 0), some (.int (mtA m i)), some (.int (nI i))] [] S
  | 0, i, S, h, e => by
    have e6 : i = 12 := by omega
    subst e6
    refine (g_ld rfl rfl rfl (g_c rfl rfl (g_if rfl rfl (fun zc7 => (g_ld rfl rfl rfl (g_ri rfl rfl rfl ?_))) (fun zc7 => ?_))))
    · exact ⟨rfl, h⟩
    · exact absurd (by decide) zc7
  | k + 1, i, S, h, e => by
    have hpl : i < 12 := by omega
    have hpl16 : i < 16 := by omega
    have hng : ¬ (12 : Int32) ≤ nI i := fun q => by have := le_n (a := 12) q; omega
    have hkw : f_kw (f_kind S 18 (nI i)) = nI (kwn (mK m i)) := by
      rw [kind_at h hpl]; exact kw_eq _ (hm.2.2.2.1.1 i)
    have ht := tl_lt (P := bP (mB m)) h.2.2.2.2.1.1 (bT (mB m) i) [kwn (mK m i)] (by simpa using kwn_lt _)
    have ih := fun S h => lp_mta hm k (i + 1) S h (by omega)
    have em : mtA m (i + 1) = if (mTl m i).1 = 0 ∧ (mTl m i).2 = 0 then mtA m i else mtA m i ||| ((1 : Int32) <<< (nI i &&& 31)) := by rw [mtA]
    rw [nI_succ, em] at ih
    refine (g_ld rfl rfl rfl (g_c rfl rfl (g_if rfl rfl (fun zc7 => (g_ld rfl rfl rfl (g_ri rfl rfl rfl ?_))) (fun zc7 => (g_ld rfl rfl rfl (g_gr rfl rfl rfl rfl rfl (g_ld rfl rfl rfl (g_ld rfl rfl rfl (g_gr rfl rfl rfl rfl rfl (g_ld rfl rfl rfl (g_cv rfl (s_kindOf (by decide)) (by omega) rfl rfl rfl rfl rfl rfl rfl rfl rfl (z_k1 (g_cs rfl (s_kindWays) (by omega) rfl rfl rfl rfl rfl rfl (z_k1 (g_cv rfl (s_toldByE (Or.inl ⟨rfl, rfl⟩) h.2.2.1 hm.2.2.1 h.2.2.2.2.1 (p := i) hpl16 (kwn_lt _) rfl hkw) (by omega) rfl rfl rfl rfl rfl rfl rfl rfl rfl (fun zv26 zS26 zh26 => ?_))))))))))))))))
    · exact absurd zc7 hng
    · obtain ⟨rfl, hA⟩ := zh26
      have hI : InvX zS26 m := h.scr (fun k hk _ => hA.1 k (by simp; omega)) (fun k hk => by rw [hA.1 41 (by decide)]; exact h.2.2.2.2.2.2.1 k hk)
      refine (g_if rfl rfl (fun zc29 => (g_inc rfl rfl rfl rfl (g_go rfl ?_))) (fun zc29 => (g_ld rfl rfl rfl (g_c rfl rfl (g_ld rfl rfl rfl (g_bin rfl rfl (g_bin rfl rfl (g_st rfl rfl rfl rfl rfl (g_inc rfl rfl rfl rfl (g_go rfl ?_))))))))))
      · have e0 : (tl (bP (mB m)) (wy (mB m) (mK m)) (bT (mB m) i) [kwn (mK m i)]).1 + 4 * (tl (bP (mB m)) (wy (mB m) (mK m)) (bT (mB m) i) [kwn (mK m i)]).2 = 0 := eq_n (b := 0) zc29
        have hz : (mTl m i).1 = 0 ∧ (mTl m i).2 = 0 := by unfold mTl; omega
        rw [if_pos hz] at ih
        exact ih zS26 hI
      · have hz : ¬ ((mTl m i).1 = 0 ∧ (mTl m i).2 = 0) := fun q => zc29 (by
          unfold mTl at q
          rw [q.1, q.2]; rfl)
        rw [if_neg hz] at ih
        exact ih zS26 hI
theorem s_mta (h : InvX S m) (hm : MOk m) : Sp (l, wX, D, ad, cA) 3 m_SB_membersThatAdd [.ref 0] S (fun v S' => v = .int (mtA m 12) ∧ InvX S' m) := by
  refine Sp.of dk_SB_membersThatAdd ok_SB_membersThatAdd rfl (g_c rfl rfl (g_st rfl rfl rfl rfl rfl (g_c rfl rfl (g_st rfl rfl rfl rfl rfl ?_))))
  exact lp_mta hm 12 0 S h (by omega)
theorem way_at2 {V : Nat → Nat} (hV : WyR S 34 V) {c p : Nat} (hc : c < 4) (hp : p < 2) : f_way S 34 (nI c) (nI p) = nI (V (2 * c + p)) := by
  have e : 2 * nI c + nI p = nI (2 * c + p) := by rw [show (2 : Int32) = nI 2 from rfl, pk_mul, nI_add]
  unfold f_way
  rw [e, if_pos (in8 (by omega)), nI_clamp (by omega)]
  exact hV.2 _ (by omega)
theorem lp_fth (hm : MOk m) {c p : Nat} (hc : c < 4) (hp : p < 2) {t M : Int32} : ∀ (k i : Nat) (b f : Int32) (S : zS), InvX S m → i + k = 4096 → Go (l, wX, D, ad, cA) 6 m_SB_fewestToHide (fun v S' => v = .int (ftH m c p t M k i b f) ∧ InvX S' m) 15 [some (.ref 0), some (.int (nI c)), some (.int (nI p)), some (.int t), some (.int M), some (.int b), some (.int f), some (.int (nI i))] [] S
  | 0, i, b, f, S, h, e => by
    have e6 : i = 4096 := by omega
    subst e6
    refine (g_ld rfl rfl rfl (g_c rfl rfl (g_if rfl rfl (fun zc20 => (g_ld rfl rfl rfl (g_ri rfl rfl rfl ?_))) (fun zc20 => ?_))))
    · exact ⟨rfl, h⟩
    · exact absurd (by decide) zc20
  | k + 1, i, b, f, S, h, e => by
    have hi4 : i < 4096 := by omega
    have hng : ¬ (4096 : Int32) ≤ nI i := fun q => by have := le_n (a := 4096) q; omega
    have ih := fun b f S h => lp_fth hm hc hp (t := t) (M := M) k (i + 1) b f S h (by omega)
    rw [nI_succ] at ih
    rw [ftH]
    refine (g_ld rfl rfl rfl (g_c rfl rfl (g_if rfl rfl (fun zc20 => (g_ld rfl rfl rfl (g_ri rfl rfl rfl ?_))) (fun zc20 => (g_ld rfl rfl rfl (g_ld rfl rfl rfl (g_c rfl rfl (g_bin rfl rfl (g_bin rfl rfl (g_if rfl rfl (fun zc30 => (g_inc rfl rfl rfl rfl (g_go rfl ?_))) (fun zc30 => (g_ld rfl rfl rfl (g_cs rfl (s_bitCount) (by omega) rfl rfl rfl rfl rfl rfl (z_k1 (g_ld rfl rfl rfl (g_if rfl rfl (fun zc40 => (g_inc rfl rfl rfl rfl (g_go rfl ?_))) (fun zc40 => (g_ld rfl rfl rfl (g_gr rfl rfl rfl rfl rfl (g_ld rfl rfl rfl (g_gr rfl rfl rfl rfl rfl (g_gr rfl rfl rfl rfl rfl (g_ld rfl rfl rfl (g_cv rfl (s_settle (Or.inr ⟨rfl, rfl⟩) h.2.2.1 hm.2.2.1 (h.kd hm) hi4) (by omega) rfl rfl rfl rfl rfl rfl rfl rfl rfl (fun zv56 zS56 zh56 => ?_)))))))))))))))))))))))))
    · exact absurd zc20 hng
    · rw [if_neg (fun q => zc30 q.1)]
      exact ih b f S h
    · rw [if_neg (fun q => i_nl zc40 q.2.1)]
      exact ih b f S h
    · obtain ⟨rfl, hW3, hr3, hA3⟩ := zh56
      have hI : InvX zS56 m := h.scr (fun k hk _ => hA3.1 k (by simp; omega)) (fun k hk => by rw [hA3.1 41 (by decide)]; exact h.2.2.2.2.2.2.1 k hk)
      refine (g_ld rfl rfl rfl (g_gr rfl rfl rfl rfl rfl (g_ld rfl rfl rfl (g_ld rfl rfl rfl (g_cv rfl (s_wayOf (by decide)) (by omega) rfl rfl rfl rfl rfl rfl rfl rfl rfl (z_k1 (g_ld rfl rfl rfl (g_bin rfl rfl (g_if rfl rfl (fun zc70 => (g_inc rfl rfl rfl rfl (g_go rfl ?_))) (fun zc70 => (g_ld rfl rfl rfl (g_st rfl rfl rfl rfl rfl (g_ld rfl rfl rfl (g_cs rfl (s_bitCount) (by omega) rfl rfl rfl rfl rfl rfl (z_k1 (g_st rfl rfl rfl rfl rfl (g_inc rfl rfl rfl rfl (g_go rfl ?_))))))))))))))))))
      · rw [way_at2 hW3 hc hp] at zc70
        rw [if_neg (fun q => zc70 q.2.2)]
        exact ih b f _ hI
      · rw [way_at2 hW3 hc hp] at zc70
        rw [if_pos ⟨Decidable.not_not.mp zc30, i_gt zc40, Decidable.not_not.mp zc70⟩]
        exact ih _ _ _ hI
theorem s_fth (h : InvX S m) (hm : MOk m) {c p : Nat} (hc : c < 4) (hp : p < 2) (hx : x = nI c) (hy : y = nI p) : Sp (l, wX, D, ad, cA) 6 m_SB_fewestToHide [.ref 0, .int x, .int y, .int z] S (fun v S' => v = .int (ftH m c p z (mtA m 12) 4096 0 (-1) 4) ∧ InvX S' m) := by
  subst hx
  subst hy
  refine Sp.of dk_SB_fewestToHide ok_SB_fewestToHide rfl (g_ld rfl rfl rfl (g_cv rfl (s_mta h hm) (by omega) rfl rfl rfl rfl rfl rfl rfl rfl rfl (fun zv1 zS1 zh1 => ?_)))
  obtain ⟨rfl, hI⟩ := zh1
  refine (g_st rfl rfl rfl rfl rfl (g_c rfl rfl (g_st rfl rfl rfl rfl rfl (g_c rfl rfl (g_st rfl rfl rfl rfl rfl (g_c rfl rfl (g_st rfl rfl rfl rfl rfl ?_)))))))
  exact lp_fth hm hc hp 4096 0 (-1) 4 zS1 hI (by omega)
end
