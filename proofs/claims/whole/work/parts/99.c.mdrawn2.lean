/-! the reference: drawn -/
section
variable {l : Launch} {D : va_G} {ad : Nat → Nat} {cA : ClassId} {x y z w : Int32} {S S' S0 : zS} {m : Mt} {B : Bk} {V : Nat → Nat} {n p k r c j s o b i N : Nat} {bb : List Nat}
theorem lp_dr (h : InvM S0 m) (hm : MOk m) (hnB : 0 < bN (mB m)) (hp : 0 < (pls (mB m)).length) {tm : Nat} (htm : tm ≤ 60) {Post : Value → zS → Prop} {F : Nat × Nat × Nat} (K : ∀ T w6 w7 w8, Am [17, 18, 19, 20] [27, 31, 36] S0 T → T.1 0 36 = nI F.2.2 → Go (l, wM, D, ad, cA) 3 m_M_drawn Post 121 [some (.ref 0), some (.int (nI tm)), some (.int y), some (.int z), some (.int (nI F.1)), some (.int (nI F.2.1)), w6, w7, w8] [] T) : ∀ (k i o mm s : Nat) (S : zS) (w7 w8 : Option Value), i + k = tm → dR (mB m) (wy (mB m) (mK m)) k o mm s = F → Am [17, 18, 19, 20] [27, 31, 36] S0 S → S.1 0 36 = nI s → s < 2147483648 → Go (l, wM, D, ad, cA) 3 m_M_drawn Post 62 [some (.ref 0), some (.int (nI tm)), some (.int y), some (.int z), some (.int (nI o)), some (.int (nI mm)), some (.int (nI i)), w7, w8] [] S
  | 0, i, o, mm, s, S, w7, w8, e, hF, hA, h36, hs => by
    rw [dR] at hF
    rw [← hF] at K
    have ei : i = tm := by omega
    subst ei
    refine (g_ld rfl rfl rfl (g_ld rfl rfl rfl (g_if rfl rfl (fun zc65 => ?_) (fun zc65 => ?_))))
    · exact K S _ _ _ hA h36
    · exact absurd (Int32.le_refl _) zc65
  | k + 1, i, o, mm, s, S, w7, w8, e, hF, hA, h36, hs => by
    have hW := hm.2.2.1
    rw [dR] at hF
    have hI : InvM S m := h.sc hA.sc
    have d1 := dTy_ok hW hnB hp s
    have d2 := dTy_ok hW hnB hp (dTy (mB m) s).2
    have hU : InvM (z_ui S 0 27 0) m := hI.sc (Am.rf (ks := []) (fs := [27]) |>.fd (by decide)).sc
    refine (g_ld rfl rfl rfl (g_ld rfl rfl rfl (g_if rfl rfl (fun zc65 => ?_) (fun zc65 => ?_))))
    · have := le_n zc65
      omega
    · refine (g_ld rfl rfl rfl (g_c rfl rfl (g_pi rfl rfl rfl rfl rfl rfl rfl (g_ld rfl rfl rfl (g_cv rfl (s_addDrawn (n := 0) hU.2.2.1 hW hnB hp (by omega) (by rw [ui_at, pk_us]; rfl) (by rw [ui_at, pk_un (by decide)]; exact h36) hs) (by omega) rfl rfl rfl rfl rfl rfl rfl rfl rfl (fun zv74 zS74 zh74 => ?_))))))
      obtain ⟨rfl, a1, a2, a3, a4, a5, a6⟩ := zh74
      rw [Nat.zero_add] at a2
      have hI1 : InvM zS74 m := hU.sc a1.sc
      refine (g_st rfl rfl rfl rfl rfl (g_ld rfl rfl rfl (g_cv rfl (s_addDrawn (n := (dTy (mB m) s).1.length) hI1.2.2.1 hW hnB hp (by omega) a2 a3 a4) (by omega) rfl rfl rfl rfl rfl rfl rfl rfl rfl (fun zv80 zS80 zh80 => ?_))))
      obtain ⟨rfl, b1, b2', b3, b4, b5, b6⟩ := zh80
      have hI2 : InvM zS80 m := hI1.sc b1.sc
      have hA2 : Am [17, 18, 19, 20] [27, 31, 36] S0 zS80 := ((hA.fd (by decide)).tr (a1.mono (by simp) (by simp +contextual))).tr (b1.mono (by simp) (by simp +contextual))
      refine (g_st rfl rfl rfl rfl rfl (g_ld rfl rfl rfl (g_ld rfl rfl rfl (g_gi rfl rfl rfl rfl rfl (g_bin rfl rfl (g_st rfl rfl rfl rfl rfl (g_ld rfl rfl rfl (g_ld rfl rfl rfl (g_ld rfl rfl rfl (g_ld rfl rfl rfl (g_cv rfl (s_isSuiting (a := 0) (b := (dTy (mB m) s).1.length) (n := (dTy (mB m) s).1.length + (dTy (mB m) (dTy (mB m) s).2).1.length) hI2.2.2.1 hW (wy_lt (mB m) (mK m)) hI2.2.2.2.2.1 d1.1 d2.1 (by omega) (by omega) (a6.congr (fun j hj => by rw [Nat.zero_add]; exact b5 j hj)) b6 (by omega) (by omega) (by omega) b2') (by omega) rfl rfl rfl rfl rfl rfl rfl rfl rfl (fun zv101 zS101 zh101 => ?_))))))))))))
      obtain ⟨rfl, hA3⟩ := zh101
      have hA4 : Am [17, 18, 19, 20] [27, 31, 36] S0 zS101 := hA2.tr (hA3.mono (by simp) (by simp +contextual))
      have e36 : zS101.1 0 36 = nI (dTy (mB m) (dTy (mB m) s).2).2 := by rw [hA3.2.1 36 (by decide)]; exact b3
      have es : nI mm + zS80.1 0 27 = nI (mm + (dTy (mB m) s).1.length + (dTy (mB m) (dTy (mB m) s).2).1.length) := by rw [b2', nI_add, Nat.add_assoc]
      rw [es]
      refine (g_if rfl rfl (fun zc104 => (g_c rfl rfl (g_bin rfl rfl (g_st rfl rfl rfl rfl rfl (g_inc rfl rfl rfl rfl (g_go rfl ?_)))))) (fun zc104 => (g_c rfl rfl (g_go rfl (g_bin rfl rfl (g_st rfl rfl rfl rfl rfl (g_inc rfl rfl rfl rfl (g_go rfl ?_))))))))
      · have g := b2_0.mp zc104
        rw [if_neg g] at hF
        have := lp_dr h hm hnB hp htm K k (i + 1) (o + 0) _ _ zS101 (some (.int (nI 0))) (some (.int (nI (dTy (mB m) s).1.length))) (by omega) hF hA4 e36 b4
        rw [nI_succ i] at this
        rw [show nI o + 0 = nI (o + 0) from nI_add o 0]
        exact this
      · have g := b2_n.mp zc104
        rw [if_pos g] at hF
        have := lp_dr h hm hnB hp htm K k (i + 1) (o + 1) _ _ zS101 (some (.int (nI 0))) (some (.int (nI (dTy (mB m) s).1.length))) (by omega) hF hA4 e36 b4
        rw [nI_succ i, nI_succ o] at this
        exact this
theorem y_drawn (h : InvM S m) (hm : MOk m) : Sp (l, wM, D, ad, cA) 3 m_M_drawn [.ref 0, .int x, .int y, .int z] S (fun v S' => v = .int (v_drawn m x y z) ∧ InvM S' m) := by
  have hW := hm.2.2.1
  have h4 := hW.1
  have hpl := pls_le hW
  unfold v_drawn
  refine Sp.of dk_M_drawn ok_M_drawn rfl (g_ld rfl rfl rfl (g_un rfl rfl (g_c rfl rfl (g_c rfl rfl (g_cs rfl (s_inE (lo := 1) (hi := 60) rfl rfl) (by omega) rfl rfl rfl rfl rfl rfl (z_k1 (g_if rfl rfl (fun zc9 => (g_c rfl rfl (g_ri rfl rfl rfl ?_))) (fun zc9 => (g_ld rfl rfl rfl (g_if rfl rfl (fun zc13 => (g_c rfl rfl (g_ri rfl rfl rfl ?_))) (fun zc13 => (g_ld rfl rfl rfl (g_un rfl rfl (g_c rfl rfl (g_c rfl rfl (g_cs rfl (s_inE (lo := 0) (hi := 2) rfl rfl) (by omega) rfl rfl rfl rfl rfl rfl (z_k1 (g_if rfl rfl (fun zc25 => ?_) (fun zc25 => (g_c rfl rfl (g_ri rfl rfl rfl ?_)))))))))))))))))))))
  · have a := b2_0.mp zc9
    rw [if_neg (fun q => a ⟨q.1, q.2.1⟩)]; exact ⟨rfl, h⟩
  · rw [if_neg (fun q => absurd q.2.2.1 (i_ng zc13))]; exact ⟨rfl, h⟩
  · have a := b2_n.mp zc9
    have c := b2_n.mp zc25
    have b : dwOk x y z := ⟨a.1, a.2, i_ge zc13, c.1, c.2⟩
    rw [if_pos b]
    refine (g_ld rfl rfl rfl (g_gi rfl rfl rfl rfl rfl (g_if rfl rfl (fun zc35 => (g_c rfl rfl (g_ri rfl rfl rfl ?_))) (fun zc35 => (g_ld rfl rfl rfl (g_cv rfl (s_bareMany h.2.2.1 hm.2.2.1) (by omega) rfl rfl rfl rfl rfl rfl rfl rfl rfl (z_k1 (g_if rfl rfl (fun zc42 => ?_) (fun zc42 => (g_c rfl rfl (g_ri rfl rfl rfl ?_)))))))))))
    · rw [h.2.2.1.1] at zc35
      have hn0 : bN (mB m) = 0 := eq_n (b := 0) zc35
      have hp0 : (pls (mB m)).length = 0 := by unfold pls; rw [hn0]; rfl
      rw [if_pos hp0]
      exact ⟨rfl, h⟩
    · have hp0 : ¬ (pls (mB m)).length = 0 := fun e => zc42 (by rw [e]; rfl)
      rw [h.2.2.1.1] at zc35
      have hn0 : 0 < bN (mB m) := Nat.pos_of_ne_zero (fun e => zc35 (by rw [e]; rfl))
      rw [if_neg hp0]
      obtain ⟨tm, htm, ex, ex2⟩ : ∃ tm, tm ≤ 60 ∧ x = nI tm ∧ x.toNatClampNeg = tm := by
        have q1 := Int32.le_iff_toInt_le.mp b.1
        have q2 := Int32.le_iff_toInt_le.mp b.2.1
        have e1 : (1 : Int32).toInt = 1 := by decide
        have e60 : (60 : Int32).toInt = 60 := by decide
        obtain ⟨tm, h1, h2, h3⟩ := nn_i (x := x) (by
          rw [Int32.le_iff_toInt_le]
          have e0 : (0 : Int32).toInt = 0 := by decide
          omega)
        refine ⟨tm, ?_, h2, h3⟩
        have : x.toNatClampNeg = x.toInt.toNat := rfl
        omega
      obtain ⟨sd, hs2, ey, ey2⟩ := nn_i b.2.2.1
      have hR : dwR m x y = dR (mB m) (wy (mB m) (mK m)) tm 0 0 sd := by unfold dwR; rw [ex2, ey2]
      rw [hR, ex]
      refine (g_ld rfl rfl rfl (g_ld rfl rfl rfl (g_pi rfl rfl rfl rfl rfl rfl rfl (g_c rfl rfl (g_st rfl rfl rfl rfl rfl (g_c rfl rfl (g_st rfl rfl rfl rfl rfl (g_c rfl rfl (g_st rfl rfl rfl rfl rfl ?_)))))))))
      refine lp_dr h hm hn0 (Nat.pos_of_ne_zero hp0) htm (fun T w6 w7 w8 hA h36 => ?_) tm 0 0 0 sd _ none none (by omega) rfl (Am.rf.fd (by decide)) (by rw [ui_at, pk_us]; exact ey) hs2
      have hI : InvM T m := h.sc hA.sc
      refine (g_ld rfl rfl rfl (g_if rfl rfl (fun zc122 => (g_ld rfl rfl rfl (g_c rfl rfl (g_if rfl rfl (fun zc132 => (g_ld rfl rfl rfl (g_gi rfl rfl rfl rfl rfl (g_ri rfl rfl rfl ?_)))) (fun zc132 => (g_ld rfl rfl rfl (g_go rfl (g_ri rfl rfl rfl ?_)))))))) (fun zc122 => (g_ld rfl rfl rfl (g_go rfl (g_ri rfl rfl rfl ?_))))))
      · rw [if_neg zc122, if_neg zc132, h36]; exact ⟨rfl, hI⟩
      · rw [if_neg zc122, if_pos (Decidable.not_not.mp zc132)]; exact ⟨rfl, hI⟩
      · rw [if_pos (Decidable.not_not.mp zc122)]; exact ⟨rfl, hI⟩
    · have hp0 : (pls (mB m)).length = 0 := eq_n (b := 0) (Decidable.not_not.mp zc42)
      rw [if_pos hp0]
      exact ⟨rfl, h⟩
  · have c := b2_0.mp (Decidable.not_not.mp zc25)
    rw [if_neg (fun q => c q.2.2.2)]; exact ⟨rfl, h⟩
end
