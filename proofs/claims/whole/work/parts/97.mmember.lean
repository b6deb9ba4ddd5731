/-! the reference: member -/
def onN (s : Nat) : Nat → Nat
  | 0 => 0
  | k + 1 => onN s k + s / 2 ^ k % 2
def askI (x : Int32) : Nat → Nat → Int32 → Int32 → Int32
  | 0, _, b, _ => b
  | k + 1, i, b, f => if x = 0 then b else if (if f_bc (x &&& kcT i) ≤ f_bc x - f_bc (x &&& kcT i) then f_bc x - f_bc (x &&& kcT i) else f_bc (x &&& kcT i)) < f then askI x k (i + 1) (nI i) (if f_bc (x &&& kcT i) ≤ f_bc x - f_bc (x &&& kcT i) then f_bc x - f_bc (x &&& kcT i) else f_bc (x &&& kcT i)) else askI x k (i + 1) b f
theorem ask_eq : ∀ b, b < 32 → askI (nI b) 3 0 (-1) 6 = f_bta (nI b) 3 0 (-1) (f_bc (nI b) + 1) := by decide +kernel
theorem bc_eq2 : ∀ a, a < 64 → ∀ b, b < 64 → f_bc (nI (64 * a + b)) = nI (onN (64 * a + b) 12) := by decide +kernel
theorem bc_eq {s : Nat} (h : s < 4096) : f_bc (nI s) = nI (onN s 12) := by
  have := bc_eq2 (s / 64) (by omega) (s % 64) (by omega)
  rw [show 64 * (s / 64) + s % 64 = s by omega] at this
  exact this
theorem msk_eq : ∀ w, w < 3 → ∀ cd, cd < 2 → mskI w (nI cd) = nI (mskI w (nI cd)).toNatClampNeg ∧ (mskI w (nI cd)).toNatClampNeg < 32 ∧ (if nI cd = 1 then kcT w else 31 - kcT w) = mskI w (nI cd) := by decide
theorem kc_and : ∀ b, b < 32 → ∀ w, w < 3 → nI b &&& kcT w = nI (nI b &&& kcT w).toNatClampNeg ∧ (nI b &&& kcT w).toNatClampNeg < 4096 := by decide
section
variable {l : Launch} {D : va_G} {ad : Nat → Nat} {cA : ClassId} {x y z w : Int32} {S S' S0 : zS} {m : Mt} {B : Bk} {V : Nat → Nat} {t u v A : List Nat} {n p k r c j s o a b i N st of L n0 : Nat} {x1 x2 : Int32}
theorem lp_ones (hs : s < 4096) : ∀ (k i : Nat), i + k = 12 → Go (l, wM, D, ad, cA) 0 m_M_ones (fun v S' => v = .int (nI (onN s 12)) ∧ S' = S) 4 [some (.int (nI s)), some (.int (nI (onN s i))), some (.int (nI i))] [] S
  | 0, i, e => by
    have e8 : i = 12 := by omega
    subst e8
    refine (g_ld rfl rfl rfl (g_c rfl rfl (g_if rfl rfl (fun zc7 => (g_ld rfl rfl rfl (g_ri rfl rfl rfl ?_))) (fun zc7 => ?_))))
    · exact ⟨rfl, rfl⟩
    · exact absurd (by decide) zc7
  | k + 1, i, e => by
    refine (g_ld rfl rfl rfl (g_c rfl rfl (g_if rfl rfl (fun zc7 => (g_ld rfl rfl rfl (g_ri rfl rfl rfl ?_))) (fun zc7 => (g_ld rfl rfl rfl (g_ld rfl rfl rfl (g_ld rfl rfl rfl (g_bin rfl rfl (g_c rfl rfl (g_bin rfl rfl (g_bin rfl rfl (g_st rfl rfl rfl rfl rfl (g_inc rfl rfl rfl rfl (g_go rfl ?_))))))))))))))
    · have := le_n (a := 12) zc7
      omega
    · rw [hid_bit hs (by omega), nI_add]
      have := lp_ones hs k (i + 1) (by omega)
      rw [nI_succ i] at this
      exact this
theorem s_ones (hs : s < 4096) (hx : x = nI s) : Sp (l, wM, D, ad, cA) 0 m_M_ones [.int x] S (fun v S' => v = .int (f_bc (nI s)) ∧ S' = S) := by
  subst hx
  rw [bc_eq hs]
  refine Sp.of dk_M_ones ok_M_ones rfl (g_c rfl rfl (g_st rfl rfl rfl rfl rfl (g_c rfl rfl (g_st rfl rfl rfl rfl rfl ?_))))
  exact lp_ones hs 12 0 (by omega)
theorem s_sortsBy (hk : k < 3) : Sp (l, wM, D, ad, cA) 0 m_M_sortsBy [.int (nI k)] S (fun v S' => v = .int (kcT k) ∧ S' = S) := by
  refine Sp.of dk_M_sortsBy ok_M_sortsBy rfl (g_ld rfl rfl rfl ?_)
  match k, hk with
  | 0, _ =>
    refine g_lsw (off := 27) (tgt := 28) rfl (by decide) (by decide) (by decide) (g_c rfl rfl (g_ri rfl rfl rfl ?_))
    exact ⟨rfl, rfl⟩
  | 1, _ =>
    refine g_lsw (off := 30) (tgt := 31) rfl (by decide) (by decide) (by decide) (g_c rfl rfl (g_ri rfl rfl rfl ?_))
    exact ⟨rfl, rfl⟩
  | 2, _ =>
    refine g_lsw (off := 33) (tgt := 34) rfl (by decide) (by decide) (by decide) (g_c rfl rfl (g_ri rfl rfl rfl ?_))
    exact ⟨rfl, rfl⟩
theorem srt_lt (hm : MOk m) : ∀ i, i ≤ (mE m).length → srt (mE m) p i < 32
  | 0, _ => by rw [srt]; omega
  | i + 1, hi => by
    have ih := srt_lt hm i (by omega)
    have hmem : (mE m).getD i (0, 0) ∈ mE m := by
      rw [List.getD_eq_getElem?_getD, List.getElem?_eq_getElem hi]
      exact List.getElem_mem hi
    obtain ⟨k1, k2⟩ := hm.2.2.2.1.2.2.2 _ hmem
    rw [srt]
    split
    · exact (and_32 _ ih _ k2).2
    · exact ih
theorem lp_sorts (h : InvM S m) (hm : MOk m) (hc : c < 4) (hj : j < 3) : ∀ (k i : Nat) (w5 : Option Value), i + k = (mE m).length → Go (l, wM, D, ad, cA) 1 m_M_sortsOf (fun v S' => v = .int (nI (srt (mE m) (3 * c + j) (mE m).length)) ∧ S' = S) 6 [some (.ref 0), some (.int (nI c)), some (.int (nI j)), some (.int (nI (srt (mE m) (3 * c + j) i))), some (.int (nI (4 * i))), w5] [] S
  | 0, i, w5, e => by
    have hE : S.1 0 34 = nI (mE m).length := h.2.2.2.1.2.2.1
    have h6 : (mE m).length ≤ 6 := hm.2.2.2.1.2.2.1
    have e8 : i = (mE m).length := by omega
    subst e8
    refine (g_ld rfl rfl rfl (g_c rfl rfl (g_ld rfl rfl rfl (g_gi rfl rfl rfl rfl rfl (g_bin rfl rfl (g_if rfl rfl (fun zc14 => (g_ld rfl rfl rfl (g_ri rfl rfl rfl ?_))) (fun zc14 => ?_)))))))
    · exact ⟨rfl, rfl⟩
    · rw [hE, show (4 : Int32) = nI 4 from rfl, pk_mul] at zc14
      exact absurd (Int32.le_refl _) zc14
  | k + 1, i, w5, e => by
    have hE : S.1 0 34 = nI (mE m).length := h.2.2.2.1.2.2.1
    have h6 : (mE m).length ≤ 6 := hm.2.2.2.1.2.2.1
    have hi : i < (mE m).length := by omega
    obtain ⟨b', j', w', cd', g1, g2, g3, g4, g5, g6, g7, g8, g9, g10⟩ := h.2.2.2.1.2.2.2 i hi
    have g5 : ((mE m).getD i (0, 0)).1 = 3 * b' + j' := g5
    have g10 : ((mE m).getD i (0, 0)).2 = (mskI w' (nI cd')).toNatClampNeg := g10
    obtain ⟨k1, k2, k3⟩ := msk_eq w' g3 cd' g4
    have hlt := srt_lt (p := 3 * c + j) hm i (by omega)
    have r0 : S.1 22 (nI (4 * i)).toNatClampNeg = nI b' := by rw [nI_clamp (by omega)]; exact g6
    have r1 : S.1 22 (nI (4 * i) + 1).toNatClampNeg = nI j' := by rw [← nI_succ, nI_clamp (by omega)]; exact g7
    have r2 : S.1 22 (nI (4 * i) + 2).toNatClampNeg = nI w' := by rw [show (2 : Int32) = nI 2 from rfl, nI_add, nI_clamp (by omega)]; exact g8
    have r3 : S.1 22 (nI (4 * i) + 3).toNatClampNeg = nI cd' := by rw [show (3 : Int32) = nI 3 from rfl, nI_add, nI_clamp (by omega)]; exact g9
    have i0 : vp_in (nI (4 * i)) 24 := vp_in_nI (by omega) (by decide)
    have i1 : vp_in (nI (4 * i) + 1) 24 := by rw [← nI_succ]; exact vp_in_nI (show 4 * i + 1 < 24 by omega) (by decide)
    have i2 : vp_in (nI (4 * i) + 2) 24 := by rw [show (2 : Int32) = nI 2 from rfl, nI_add]; exact vp_in_nI (show 4 * i + 2 < 24 by omega) (by decide)
    have i3 : vp_in (nI (4 * i) + 3) 24 := by rw [show (3 : Int32) = nI 3 from rfl, nI_add]; exact vp_in_nI (show 4 * i + 3 < 24 by omega) (by decide)
    have e4i : nI (4 * i) + 4 = nI (4 * (i + 1)) := by rw [show (4 : Int32) = nI 4 from rfl, nI_add, Nat.mul_succ]
    have es : srt (mE m) (3 * c + j) (i + 1) = if ((mE m).getD i (0, 0)).1 = 3 * c + j then srt (mE m) (3 * c + j) i &&& ((mE m).getD i (0, 0)).2 else srt (mE m) (3 * c + j) i := rfl
    have ih := fun w5 => lp_sorts h hm hc hj k (i + 1) w5 (by omega)
    refine (g_ld rfl rfl rfl (g_c rfl rfl (g_ld rfl rfl rfl (g_gi rfl rfl rfl rfl rfl (g_bin rfl rfl (g_if rfl rfl (fun zc14 => (g_ld rfl rfl rfl (g_ri rfl rfl rfl ?_))) (fun zc14 => (g_ld rfl rfl rfl (g_gr rfl rfl rfl rfl rfl (g_ld rfl rfl rfl (g_ald rfl rfl rfl ?_ (g_ld rfl rfl rfl (g_if rfl rfl (fun zc25 => (g_inc rfl rfl rfl rfl (g_go rfl ?_))) (fun zc25 => (g_ld rfl rfl rfl (g_gr rfl rfl rfl rfl rfl (g_ld rfl rfl rfl (g_c rfl rfl (g_bin rfl rfl (g_ald rfl rfl rfl ?_ (g_ld rfl rfl rfl (g_if rfl rfl (fun zc38 => (g_inc rfl rfl rfl rfl (g_go rfl ?_))) (fun zc38 => ?_)))))))))))))))))))))))
    · rw [hE, show (4 : Int32) = nI 4 from rfl, pk_mul] at zc14
      have := le_n zc14
      omega
    · exact i0
    · rw [r0] at zc25
      have hne : ¬ ((mE m).getD i (0, 0)).1 = 3 * c + j := fun q => zc25 (by rw [show b' = c by omega])
      have := ih w5
      rw [es, if_neg hne] at this
      rw [e4i]
      exact this
    · exact i1
    · rw [r1] at zc38
      have hne : ¬ ((mE m).getD i (0, 0)).1 = 3 * c + j := fun q => zc38 (by rw [show j' = j by omega])
      have := ih w5
      rw [es, if_neg hne] at this
      rw [e4i]
      exact this
    · rw [r0] at zc25
      rw [r1] at zc38
      have eb : b' = c := eq_n (Decidable.not_not.mp zc25)
      have ej : j' = j := eq_n (Decidable.not_not.mp zc38)
      have heq : ((mE m).getD i (0, 0)).1 = 3 * c + j := by omega
      refine (g_ld rfl rfl rfl (g_gr rfl rfl rfl rfl rfl (g_ld rfl rfl rfl (g_c rfl rfl (g_bin rfl rfl (g_ald rfl rfl rfl i2 ?_))))))
      rw [r2]
      refine (g_cs rfl (s_sortsBy g3) (by omega) rfl rfl rfl rfl rfl rfl (z_k1 ?_))
      have fin : nI (srt (mE m) (3 * c + j) i) &&& mskI w' (nI cd') = nI (srt (mE m) (3 * c + j) (i + 1)) := by
        rw [es, if_pos heq, g10, k1, nI_clamp (by omega)]
        exact (and_32 _ hlt _ k2).1
      refine (g_st rfl rfl rfl rfl rfl (g_ld rfl rfl rfl (g_ld rfl rfl rfl (g_gr rfl rfl rfl rfl rfl (g_ld rfl rfl rfl (g_c rfl rfl (g_bin rfl rfl (g_ald rfl rfl rfl ?_ (g_c rfl rfl (g_if rfl rfl (fun zc66 => (g_c rfl rfl (g_ld rfl rfl rfl (g_bin rfl rfl (g_bin rfl rfl (g_st rfl rfl rfl rfl rfl (g_inc rfl rfl rfl rfl (g_go rfl ?_)))))))) (fun zc66 => (g_ld rfl rfl rfl (g_go rfl (g_bin rfl rfl (g_st rfl rfl rfl rfl rfl (g_inc rfl rfl rfl rfl (g_go rfl ?_)))))))))))))))))
      · exact i3
      · rw [r3] at zc66
        rw [if_neg zc66] at k3
        rw [k3, fin, e4i]
        exact ih _
      · rw [r3] at zc66
        rw [if_pos (Decidable.not_not.mp zc66)] at k3
        rw [k3, fin, e4i]
        exact ih _
theorem s_sortsOfM (h : InvM S m) (hm : MOk m) (hc : c < 4) (hj : j < 3) : Sp (l, wM, D, ad, cA) 1 m_M_sortsOf [.ref 0, .int (nI c), .int (nI j)] S (fun v S' => v = .int (nI (mSo m (3 * c + j))) ∧ S' = S) := by
  refine Sp.of dk_M_sortsOf ok_M_sortsOf rfl (g_c rfl rfl (g_st rfl rfl rfl rfl rfl (g_c rfl rfl (g_st rfl rfl rfl rfl rfl ?_))))
  exact lp_sorts h hm hc hj (mE m).length 0 none (by omega)
theorem lp_ask (hb : b < 32) {w1 w2 : Int32} : ∀ (k i : Nat) (bs f : Int32) (l7 l8 l9 : Option Value), i + k = 3 → Go (l, wM, D, ad, cA) 2 m_M_askOf (fun v S' => v = .int (askI (nI b) k i bs f) ∧ S' = S) 17 [some (.ref 0), some (.int w1), some (.int w2), some (.int (nI b)), some (.int bs), some (.int f), some (.int (nI i)), l7, l8, l9] [] S
  | 0, i, bs, f, l7, l8, l9, e => by
    have e8 : i = 3 := by omega
    subst e8
    refine (g_ld rfl rfl rfl (g_c rfl rfl (g_if rfl rfl (fun zc20 => (g_ld rfl rfl rfl (g_ri rfl rfl rfl ?_))) (fun zc20 => ?_))))
    · exact ⟨rfl, rfl⟩
    · exact absurd (by decide) zc20
  | k + 1, i, bs, f, l7, l8, l9, e => by
    have hi : i < 3 := by omega
    obtain ⟨q1, q2⟩ := kc_and b hb i hi
    rw [askI]
    refine (g_ld rfl rfl rfl (g_c rfl rfl (g_if rfl rfl (fun zc20 => (g_ld rfl rfl rfl (g_ri rfl rfl rfl ?_))) (fun zc20 => (g_ld rfl rfl rfl (g_if rfl rfl (fun zc24 => (g_ld rfl rfl rfl (g_ri rfl rfl rfl ?_))) (fun zc24 => ?_)))))))
    · have := le_n (a := 3) zc20
      omega
    · rw [if_pos zc24]; exact ⟨rfl, rfl⟩
    · rw [if_neg zc24]
      refine (g_ld rfl rfl rfl (g_ld rfl rfl rfl (g_cs rfl (s_sortsBy hi) (by omega) rfl rfl rfl rfl rfl rfl (z_k1 (g_bin rfl rfl (g_cs rfl (s_ones q2 q1) (by omega) rfl rfl rfl rfl rfl rfl (z_k1 ?_)))))))
      rw [← q1]
      refine (g_st rfl rfl rfl rfl rfl (g_ld rfl rfl rfl (g_cs rfl (s_ones (s := b) (by omega) rfl) (by omega) rfl rfl rfl rfl rfl rfl (z_k1 ?_))))
      refine (g_ld rfl rfl rfl (g_bin rfl rfl (g_st rfl rfl rfl rfl rfl (g_ld rfl rfl rfl (g_ld rfl rfl rfl (g_if rfl rfl (fun zc52 => (g_ld rfl rfl rfl (g_st rfl rfl rfl rfl rfl (g_ld rfl rfl rfl (g_ld rfl rfl rfl (g_if rfl rfl (fun zc68 => (g_ld rfl rfl rfl (g_st rfl rfl rfl rfl rfl (g_ld rfl rfl rfl (g_ld rfl rfl rfl (g_if rfl rfl (fun zc84 => (g_ld rfl rfl rfl (g_st rfl rfl rfl rfl rfl (g_inc rfl rfl rfl rfl (g_go rfl ?_))))) (fun zc84 => (g_ld rfl rfl rfl (g_go rfl (g_st rfl rfl rfl rfl rfl (g_inc rfl rfl rfl rfl (g_go rfl ?_)))))))))))) (fun zc68 => (g_ld rfl rfl rfl (g_go rfl (g_st rfl rfl rfl rfl rfl (g_ld rfl rfl rfl (g_ld rfl rfl rfl (g_if rfl rfl (fun zc84 => (g_ld rfl rfl rfl (g_st rfl rfl rfl rfl rfl (g_inc rfl rfl rfl rfl (g_go rfl ?_))))) (fun zc84 => (g_ld rfl rfl rfl (g_go rfl (g_st rfl rfl rfl rfl rfl (g_inc rfl rfl rfl rfl (g_go rfl ?_))))))))))))))))))) (fun zc52 => (g_ld rfl rfl rfl (g_go rfl (g_st rfl rfl rfl rfl rfl (g_ld rfl rfl rfl (g_ld rfl rfl rfl (g_if rfl rfl (fun zc68 => (g_ld rfl rfl rfl (g_st rfl rfl rfl rfl rfl (g_ld rfl rfl rfl (g_ld rfl rfl rfl (g_if rfl rfl (fun zc84 => (g_ld rfl rfl rfl (g_st rfl rfl rfl rfl rfl (g_inc rfl rfl rfl rfl (g_go rfl ?_))))) (fun zc84 => (g_ld rfl rfl rfl (g_go rfl (g_st rfl rfl rfl rfl rfl (g_inc rfl rfl rfl rfl (g_go rfl ?_)))))))))))) (fun zc68 => (g_ld rfl rfl rfl (g_go rfl (g_st rfl rfl rfl rfl rfl (g_ld rfl rfl rfl (g_ld rfl rfl rfl (g_if rfl rfl (fun zc84 => (g_ld rfl rfl rfl (g_st rfl rfl rfl rfl rfl (g_inc rfl rfl rfl rfl (g_go rfl ?_))))) (fun zc84 => (g_ld rfl rfl rfl (g_go rfl (g_st rfl rfl rfl rfl rfl (g_inc rfl rfl rfl rfl (g_go rfl ?_))))))))))))))))))))))))))
      · rw [if_pos zc52, if_neg (i_nl zc68)]
        have := lp_ask hb (w1 := w1) (w2 := w2) k (i + 1) bs f (some (.int (f_bc (nI b &&& kcT i)))) (some (.int (f_bc (nI b) - f_bc (nI b &&& kcT i)))) (some (.int (f_bc (nI b) - f_bc (nI b &&& kcT i)))) (by omega)
        rw [nI_succ i] at this
        exact this
      · exact absurd zc68 zc84
      · exact absurd zc84 zc68
      · rw [if_pos zc52, if_pos (i_gt zc68)]
        have := lp_ask hb (w1 := w1) (w2 := w2) k (i + 1) (nI i) (f_bc (nI b) - f_bc (nI b &&& kcT i)) (some (.int (f_bc (nI b &&& kcT i)))) (some (.int (f_bc (nI b) - f_bc (nI b &&& kcT i)))) (some (.int (f_bc (nI b) - f_bc (nI b &&& kcT i)))) (by omega)
        rw [nI_succ i] at this
        exact this
      · rw [if_neg zc52, if_neg (i_nl zc68)]
        have := lp_ask hb (w1 := w1) (w2 := w2) k (i + 1) bs f (some (.int (f_bc (nI b &&& kcT i)))) (some (.int (f_bc (nI b) - f_bc (nI b &&& kcT i)))) (some (.int (f_bc (nI b &&& kcT i)))) (by omega)
        rw [nI_succ i] at this
        exact this
      · exact absurd zc68 zc84
      · exact absurd zc84 zc68
      · rw [if_neg zc52, if_pos (i_gt zc68)]
        have := lp_ask hb (w1 := w1) (w2 := w2) k (i + 1) (nI i) (f_bc (nI b &&& kcT i)) (some (.int (f_bc (nI b &&& kcT i)))) (some (.int (f_bc (nI b) - f_bc (nI b &&& kcT i)))) (some (.int (f_bc (nI b &&& kcT i)))) (by omega)
        rw [nI_succ i] at this
        exact this
theorem s_askOf (h : InvM S m) (hm : MOk m) (hc : c < 4) (hj : j < 3) : Sp (l, wM, D, ad, cA) 2 m_M_askOf [.ref 0, .int (nI c), .int (nI j)] S (fun v S' => v = .int (f_bta (nI (mSo m (3 * c + j))) 3 0 (-1) (f_bc (nI (mSo m (3 * c + j))) + 1)) ∧ S' = S) := by
  have hb : mSo m (3 * c + j) < 32 := srt_lt hm _ (Nat.le_refl _)
  rw [← ask_eq _ hb]
  refine Sp.of dk_M_askOf ok_M_askOf rfl (g_ld rfl rfl rfl (g_ld rfl rfl rfl (g_ld rfl rfl rfl (g_cv rfl (s_sortsOfM h hm hc hj) (by omega) rfl rfl rfl rfl rfl rfl rfl rfl rfl (z_k1 (g_st rfl rfl rfl rfl rfl (g_c rfl rfl (g_st rfl rfl rfl rfl rfl (g_c rfl rfl (g_st rfl rfl rfl rfl rfl (g_c rfl rfl (g_st rfl rfl rfl rfl rfl ?_))))))))))))
  exact lp_ask hb 3 0 (-1) 6 none none none (by omega)
end
