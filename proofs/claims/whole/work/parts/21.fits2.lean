/-! fits -/
section
variable {l : Launch} {D : va_G} {ad : Nat → Nat} {cA : ClassId} {d r q n : Nat} {x z : Int32} {S S0 : zS} {B : Bk} {V kd : Nat → Nat}
theorem bk_abv {r : Nat} (hB : BkX S r B) (hW : WfB B) {c : Nat} (hc : c < 4) : f_abv S r (nI c) = (match bT B (12 + c) with
  | [] => -1
  | ab :: _ => nI ab) := by
  obtain ⟨st, h1, h2, h3, h4, h5⟩ := bk_ty hB (p := 12 + c) (by omega)
  have e12 : 12 + nI c = nI (12 + c) := nI_add 12 c
  have h4n := hW.1
  unfold f_abv
  rw [e12, h1, h2, pk_sub (by omega), show st + (bT B (12 + c)).length - st = (bT B (12 + c)).length by omega, hB.1]
  rcases hW.2.2.2.2.2 c hc with e | e
  · rw [e, if_neg (fun q => absurd q.2 (by decide))]
  · obtain ⟨hcn, -, ab, as, e, hac, -⟩ := e
    have h0 := h5 0 (by rw [e]; simp)
    rw [e] at h0 ⊢
    rw [if_pos ⟨⟨nI_pos' (by omega), nI_lt hcn (by omega), (in4 hc).2⟩, by rw [← nI_0]; exact nI_lt (by simp) (by simp only [List.length_cons]; rw [e] at h3; simp only [List.length_cons] at h3; omega)⟩]
    simpa using h0
theorem m1_lt {g : Nat} (hg : g < 2 ^ 31) : ¬ nI g < -1 ∧ (-1 : Int32) ≤ nI g ∧ (-1 : Int32) ≠ nI g := by
  have h : (-1 : Int32) ≤ nI g := by rw [Int32.le_iff_toInt_le, nI_toInt hg]; have : (-1 : Int32).toInt = -1 := by decide
                                     omega
  refine ⟨Int32.not_lt.mpr h, h, fun q => ?_⟩
  have := congrArg Int32.toInt q
  rw [nI_toInt hg] at this
  have h1 : (-1 : Int32).toInt = -1 := by decide
  omega
theorem lp_fitsD {fu g : Nat} {xa xb xd xF xG xk : Int32} {w9 w10 : Option Value} {b : Bool} (hb : b = false) (hg : g < 2 ^ 31) : Go (l, wX, D, ad, cA) (8 + 3 * (fu + 1)) m_Fit_fits (fun v S' => v = .int (b2 (b = true)) ∧ S' = S) 41 [some (.ref 40), some (.int xa), some (.int xb), some (.int xd), some (.int (-1)), some (.int (nI g)), some (.int xF), some (.int xG), some (.int xk), w9, w10] [] S := by
  have hfin : Go (l, wX, D, ad, cA) (8 + 3 * (fu + 1)) m_Fit_fits (fun v S' => v = .int (b2 (b = true)) ∧ S' = S) 129 [some (.ref 40), some (.int xa), some (.int xb), some (.int xd), some (.int (-1)), some (.int (nI g)), some (.int xF), some (.int xG), some (.int xk), w9, w10] [] S := by
    refine (g_ld rfl rfl rfl (g_ld rfl rfl rfl (g_if rfl rfl (fun zc133 => (g_c rfl rfl (g_ri rfl rfl rfl ?_))) (fun zc133 => ?_))))
    · exact v_int (b2_f (by rw [hb]; simp)).symm rfl
    · exact absurd (m1_lt hg).2.2 zc133
  refine (g_ld rfl rfl rfl (g_c rfl rfl (g_if rfl rfl (fun zc44 => ?_) (fun zc44 => (g_ld rfl rfl rfl (g_ld rfl rfl rfl (g_if rfl rfl (fun zc51 => ?_) (fun zc51 => ?_))))))))
  · exact hfin
  · exact hfin
  · exact absurd (m1_lt hg).2.1 zc51
theorem s_fits (hX : FX S B V) : ∀ f, f ≤ 16 → fitsAt l D ad cA S B V f := by
  intro f
  induction f with
  | zero =>
    intro hf a b t u xa xb xd hxa hxb hxd hta hub ht hu
    subst hxd
    refine Sp.of dk_Fit_fits ok_Fit_fits rfl (g_ld rfl rfl rfl (g_c rfl rfl (g_if rfl rfl (fun zc3 => ?_) (fun zc3 => (g_c rfl rfl (g_ri rfl rfl rfl ?_))))))
    · exact absurd zc3 (by decide)
    · exact ⟨rfl, rfl⟩
  | succ f ih =>
    intro hf a b t u xa xb xd hxa hxb hxd hta hub ht hu
    have ih := ih (by omega)
    subst hxa
    subst hxb
    subst hxd
    obtain ⟨ea, ha33, han⟩ := ht_hd hta ht
    obtain ⟨eb, hb33, hbn⟩ := ht_hd hub hu
    have h4 := hX.2.1.1
    have key : ∀ (k c : Nat) (xF xG : Int32) (ff gg : List Nat) (w9 w10 : Option Value), c + k ≤ 3 → VT S B c xF xG ff gg → Go (l, wX, D, ad, cA) (8 + 3 * (f + 1)) m_Fit_fits (fun v S' => v = .int (b2 (rF V (sF B V f) (bP B) u (clb B (ahd u) (4 - k) c ff gg) = true)) ∧ S' = S) 41 [some (.ref 40), some (.int (nI a)), some (.int (nI b)), some (.int (nI (16 - (f + 1)))), some (.int (nI c)), some (.int (nI (ahd u))), some (.int xF), some (.int xG), some (.int (nI k)), w9, w10] [] S := by
      intro k c
      induction c using Nat.strongRecOn generalizing k with
      | ind c ihc =>
        intro xF xG ff gg w9 w10 hck hv
        have hk4 : 4 - k = (3 - k) + 1 := by omega
        refine (g_ld rfl rfl rfl (g_c rfl rfl (g_if rfl rfl (fun zc44 => ?_) (fun zc44 => (g_ld rfl rfl rfl (g_ld rfl rfl rfl (g_if rfl rfl (fun zc51 => ?_) (fun zc51 => ?_))))))))
        · have := le_n (a := 4) zc44; omega
        · have hle := le_n zc51
          rw [hk4, clb, if_neg (by omega)]
          have hv0 : ¬ (nI c ≠ nI (ahd u)) → (0 < bP B (ahd u) → ∃ F, xF = nI F ∧ HT S F ff ∧ CT B ff) := fun q hp => hv.1 (by rw [eq_n (Decidable.not_not.mp q)]; exact hp)
          have hv1 : ¬ (nI c ≠ nI (ahd u)) → (1 < bP B (ahd u) → ∃ F, xG = nI F ∧ HT S F gg ∧ CT B gg) := fun q hp => hv.2 (by rw [eq_n (Decidable.not_not.mp q)]; exact hp)
          refine (g_ld rfl rfl rfl (g_ld rfl rfl rfl (g_if rfl rfl (fun zc133 => (g_c rfl rfl (g_ri rfl rfl rfl ?_))) (fun zc133 => (g_ld rfl rfl rfl (g_ld rfl rfl rfl (g_ld rfl rfl rfl (g_c rfl rfl (g_ld rfl rfl rfl (g_cv rfl (s_argF hX (by omega) ih (b := b) (p := 0) (u := u) (a' := ff) rfl rfl (by omega) rfl hub hu (hv0 zc133)) (by omega) rfl rfl rfl rfl rfl rfl rfl rfl rfl (z_k1 (g_if rfl rfl (fun zc145 => (g_c rfl rfl (g_ri rfl rfl rfl ?_))) (fun zc145 => (g_ld rfl rfl rfl (g_ld rfl rfl rfl (g_ld rfl rfl rfl (g_c rfl rfl (g_ld rfl rfl rfl (g_cv rfl (s_argF hX (by omega) ih (b := b) (p := 1) (u := u) (a' := gg) rfl rfl (by omega) rfl hub hu (hv1 zc133)) (by omega) rfl rfl rfl rfl rfl rfl rfl rfl rfl (z_k1 (g_if rfl rfl (fun zc157 => (g_c rfl rfl (g_ri rfl rfl rfl ?_))) (fun zc157 => (g_c rfl rfl (g_go rfl (g_ri rfl rfl rfl ?_)))))))))))))))))))))))))
          · refine v_int (b2_f (fun q => ?_)).symm rfl
            obtain ⟨q0, e, h1, -, -⟩ := rF_iff.mp q
            cases e
            exact zc133 (congrArg nI h1)
          · have hz := b2_0.mp zc145
            refine v_int (b2_f (fun q => ?_)).symm rfl
            obtain ⟨q0, e, h1, h2, h3⟩ := rF_iff.mp q
            cases e
            exact hz h2
          · have hz := b2_0.mp zc157
            refine v_int (b2_f (fun q => ?_)).symm rfl
            obtain ⟨q0, e, h1, h2, h3⟩ := rF_iff.mp q
            cases e
            exact hz h3
          · exact v_int (b2_t (rF_iff.mpr ⟨_, rfl, eq_n (Decidable.not_not.mp zc133), b2_n.mp zc145, b2_n.mp zc157⟩)).symm rfl
        · have hgt := nle_n zc51
          have hc4 : c < 4 := by omega
          obtain ⟨st, h1, h2, h3, h4', h5⟩ := bk_ty hX.1 (p := 12 + c) (by omega)
          have e12 : 12 + nI c = nI (12 + c) := nI_add 12 c
          have hab := bk_abv hX.1 hX.2.1 hc4
          rw [hk4, clb, if_pos hgt]
          refine (g_ld rfl rfl rfl (g_gr rfl rfl rfl rfl rfl (g_c rfl rfl (g_ld rfl rfl rfl (g_bin rfl rfl (g_cv rfl (s_startOf (by decide)) (by omega) rfl rfl rfl rfl rfl rfl rfl rfl rfl (z_k1 (g_st rfl rfl rfl rfl rfl (g_ld rfl rfl rfl (g_gr rfl rfl rfl rfl rfl (g_ld rfl rfl rfl (g_c rfl rfl (g_bin rfl rfl (g_cv rfl (s_signAt (by decide)) (by omega) rfl rfl rfl rfl rfl rfl rfl rfl rfl (z_k1 (g_ld rfl rfl rfl (g_ld rfl rfl rfl (g_cs rfl (s_putIn) (by omega) rfl rfl rfl rfl rfl rfl (z_k1 (g_st rfl rfl rfl rfl rfl (g_ld rfl rfl rfl (g_gr rfl rfl rfl rfl rfl (g_ld rfl rfl rfl (g_c rfl rfl (g_bin rfl rfl (g_cv rfl (s_signAt (by decide)) (by omega) rfl rfl rfl rfl rfl rfl rfl rfl rfl (z_k1 (g_ld rfl rfl rfl (g_ld rfl rfl rfl (g_cs rfl (s_putIn) (by omega) rfl rfl rfl rfl rfl rfl (z_k1 (g_st rfl rfl rfl rfl rfl (g_ld rfl rfl rfl (g_st rfl rfl rfl rfl rfl (g_ld rfl rfl rfl (g_gr rfl rfl rfl rfl rfl (g_ld rfl rfl rfl (g_cv rfl (s_classAbove (by decide)) (by omega) rfl rfl rfl rfl rfl rfl rfl rfl rfl (z_k1 (g_st rfl rfl rfl rfl rfl (g_inc rfl rfl rfl rfl (g_go rfl ?_))))))))))))))))))))))))))))))))))))))))))
          rw [e12, h1, hab]
          cases he : bT B (12 + c) with
          | nil => exact lp_fitsD rfl (by omega)
          | cons ab as =>
            rw [he] at h3 h5
            simp only [List.length_cons] at h3 h5
            have e1 : nI st + 1 = nI (st + 1) := (nI_succ st).symm
            have e2 : nI st + 2 = nI (st + 2) := nI_add st 2
            rw [e1, e2]
            obtain ⟨hlt, hv'⟩ := vt_up hX (x0 := f_sgn S 3 (nI (st + 1))) (x1 := f_sgn S 3 (nI (st + 2))) hc4 he hv (fun s hs => by
              have hi := (List.getElem?_eq_some_iff.mp hs).1
              rw [h5 1 (by omega)]
              simp [List.getD_eq_getElem?_getD, hs]) (fun s hs => by
              have hi := (List.getElem?_eq_some_iff.mp hs).1
              rw [h5 2 (by omega)]
              simp [List.getD_eq_getElem?_getD, hs])
            have := ihc ab hlt (k + 1) _ _ _ _ (some (.int (nI st))) (some (.int (if f_sgn S 3 (nI (st + 2)) = 4 then xF else if f_sgn S 3 (nI (st + 2)) = 5 then xG else f_sgn S 3 (nI (st + 2))))) (by omega) hv'
            rw [nI_succ k, show 4 - (k + 1) = 3 - k by omega] at this
            exact this
    refine Sp.of dk_Fit_fits ok_Fit_fits rfl (g_ld rfl rfl rfl (g_c rfl rfl (g_if rfl rfl (fun zc3 => (g_ld rfl rfl rfl (g_ld rfl rfl rfl (g_cv rfl (s_fsignAt) (by omega) rfl rfl rfl rfl rfl rfl rfl rfl rfl (z_k1 (g_st rfl rfl rfl rfl rfl (g_ld rfl rfl rfl (g_ld rfl rfl rfl (g_cv rfl (s_fsignAt) (by omega) rfl rfl rfl rfl rfl rfl rfl rfl rfl (z_k1 (g_st rfl rfl rfl rfl rfl (g_ld rfl rfl rfl (g_ld rfl rfl rfl (g_c rfl rfl (g_cv rfl (s_argumentE (a := a) (p := 0) ha33 (by omega) rfl rfl) (by omega) rfl rfl rfl rfl rfl rfl rfl rfl rfl (z_k1 (g_st rfl rfl rfl rfl rfl (g_ld rfl rfl rfl (g_ld rfl rfl rfl (g_c rfl rfl (g_cv rfl (s_argumentE (a := a) (p := 1) ha33 (by omega) rfl rfl) (by omega) rfl rfl rfl rfl rfl rfl rfl rfl rfl (z_k1 (g_st rfl rfl rfl rfl rfl (g_c rfl rfl (g_st rfl rfl rfl rfl rfl ?_))))))))))))))))))))))))) (fun zc3 => (g_c rfl rfl (g_ri rfl rfl rfl ?_))))))
    · rw [ea, eb, sF]
      refine key 0 (ahd t) _ _ _ _ none none (by omega) ⟨fun hp => ?_, fun hp => ?_⟩
      · obtain ⟨g1, g2, -⟩ := ht_arg hX hta ht (p := 0) (by omega)
        exact ⟨_, rfl, g1, g2⟩
      · obtain ⟨g1, g2, -⟩ := ht_arg hX hta ht (p := 1) (by omega)
        exact ⟨_, rfl, g1, g2⟩
    · exact absurd (nI_le (show 16 - (f + 1) ≤ 15 by omega) (by omega)) zc3
theorem s_oneFits (hX : FX S B V) {t u : List Nat} (h1 : HT S 4 t) (h2 : HT S 19 u) (ht : CT B t) (hu : CT B u) : Sp (l, wX, D, ad, cA) 57 m_Fit_oneFits [.ref 40] S (fun v S' => v = .int (b2 (sF B V 16 t u = true)) ∧ S' = S) := by
  refine Sp.of dk_Fit_oneFits ok_Fit_oneFits rfl (g_ld rfl rfl rfl (g_c rfl rfl (g_c rfl rfl (g_c rfl rfl (g_cv rfl (s_fits hX 16 (by omega) 4 19 t u _ _ _ rfl rfl rfl h1 h2 ht hu) (by omega) rfl rfl rfl rfl rfl rfl rfl rfl rfl (z_k1 (g_ri rfl rfl ?_ ?_)))))))
  · exact b2_nar
  · exact ⟨rfl, rfl⟩
end
