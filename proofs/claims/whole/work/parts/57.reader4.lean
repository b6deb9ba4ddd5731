/-! the Reader: above, arguments, members -/
section
variable {l : Launch} {D : va_G} {ad : Nat → Nat} {cA : ClassId} {x y z w : Int32} {S S' S0 : zS} {B : Bk} {K : Nat → Nat} {n p k b c s o j r : Nat} {q q' : Ps}
theorem ag8 {ks : List Nat} (h : Ag [10, 14, 16, 17] S S') : Ag [10, 11, 12, 13, 14, 15, 16, 17] S S' := h.mono (by simp +contextual)
theorem s_takesAbove (h : RdX S q j) (h0 : qH q = 2) (hc : c ≤ 126) (hj : j < 90) : Sp (l, wX, D, ad, cA) 2 m_Rdr_takesAbove [.ref 17, .int (nI c)] S (rdPost S q c j) := by
  have hQ := h.1
  have h4 := hQ.2.1
  have hN : qN q < bN (qB q) := hQ.2.2.2.2.2.1 (by omega)
  obtain ⟨k, hk, hd⟩ := h.df
  have e : stp q c = st2 q c := stp_2 h0
  unfold st2 at e
  refine Sp.of dk_Rdr_takesAbove ok_Rdr_takesAbove rfl (g_ld rfl rfl rfl (g_c rfl rfl (g_bin rfl rfl (g_st rfl rfl rfl rfl rfl (g_ld rfl rfl rfl (g_if rfl rfl (fun zc6 => (g_c rfl rfl (g_ri rfl rfl rfl ?_))) (fun zc6 => (g_ld rfl rfl rfl (g_ld rfl rfl rfl (g_gi rfl rfl rfl rfl rfl (g_if rfl rfl (fun zc14 => ?_) (fun zc14 => (g_c rfl rfl (g_ri rfl rfl rfl ?_))))))))))))))
  · have g : ¬ (48 ≤ c ∧ c < 48 + qN q) := fun g => by
      rw [sub48 g.1] at zc6
      exact absurd zc6 (nI_pos (by omega))
    rw [if_neg g] at e
    exact rd_no Ag.rf e rfl
  · have h48 : 48 ≤ c := Nat.le_of_not_lt (fun g => neg48 _ g (i_ge zc6))
    have hlt : c < 48 + qN q := by
      rw [sub48 h48, h.2.2.1] at zc14
      have := lt_n zc14
      omega
    rw [if_pos ⟨h48, hlt⟩] at e
    have hxp : (z_ui (z_ui S 17 4 1) 17 3 (12 + (z_ui S 17 4 1).1 17 2)).1 17 3 = nI (12 + qN q) := by
      rw [ui_at, pk_us, ui_at, pk_un (by decide), h.2.2.1, show (12 : Int32) = nI 12 from rfl, nI_add]
    refine (g_ld rfl rfl rfl (g_c rfl rfl (g_pi rfl rfl rfl rfl rfl rfl rfl (g_ld rfl rfl rfl (g_c rfl rfl (g_ld rfl rfl rfl (g_gi rfl rfl rfl rfl rfl (g_bin rfl rfl (g_pi rfl rfl rfl rfl rfl rfl rfl (g_ld rfl rfl rfl (g_gr rfl rfl rfl rfl rfl (g_ld rfl rfl rfl (g_gi rfl rfl rfl rfl rfl (g_cv rfl (s_beginType (p := 12 + qN q) (by omega) hxp) (by omega) rfl rfl rfl rfl rfl rfl rfl rfl rfl (fun zv43 zS43 zh43 => ?_)))))))))))))))
    obtain ⟨rfl, rfl⟩ := zh43
    have hD1 : DfX (z_ui (z_ui S 17 4 1) 17 3 (12 + (z_ui S 17 4 1).1 17 2)) (qB q) (qK q) k 99 := hd.ag (fun i _ _ => by rw [ui_ne (by omega), ui_ne (by omega)])
    have hD2 := (hD1.begin (p := 12 + qN q) (by omega) hD1.2.2.2.2.1).ag (S' := z_ui (z_ui (z_ui (z_ui (z_ui S 17 4 1) 17 3 (12 + (z_ui S 17 4 1).1 17 2)) 15 (12 + qN q) ((z_ui (z_ui S 17 4 1) 17 3 (12 + (z_ui S 17 4 1).1 17 2)).1 10 6)) 16 (12 + qN q) ((z_ui (z_ui S 17 4 1) 17 3 (12 + (z_ui S 17 4 1).1 17 2)).1 10 6)) 17 1 3) (fun i _ _ => ui_ne (by omega))
    have hpl : (z_ui (z_ui (z_ui (z_ui (z_ui S 17 4 1) 17 3 (12 + (z_ui S 17 4 1).1 17 2)) 15 (12 + qN q) ((z_ui (z_ui S 17 4 1) 17 3 (12 + (z_ui S 17 4 1).1 17 2)).1 10 6)) 16 (12 + qN q) ((z_ui (z_ui S 17 4 1) 17 3 (12 + (z_ui S 17 4 1).1 17 2)).1 10 6)) 17 1 3).1 17 3 = nI (12 + qN q) := by
      rw [ui_at, pk_un (by decide), ui_ne (by decide), ui_ne (by decide)]; exact hxp
    have hop : (z_ui (z_ui (z_ui (z_ui (z_ui S 17 4 1) 17 3 (12 + (z_ui S 17 4 1).1 17 2)) 15 (12 + qN q) ((z_ui (z_ui S 17 4 1) 17 3 (12 + (z_ui S 17 4 1).1 17 2)).1 10 6)) 16 (12 + qN q) ((z_ui (z_ui S 17 4 1) 17 3 (12 + (z_ui S 17 4 1).1 17 2)).1 10 6)) 17 1 3).1 17 4 = nI (0 + 1) := by
      rw [ui_at, pk_un (by decide), ui_ne (by decide), ui_ne (by decide), ui_at, pk_un (by decide), ui_at, pk_us]; rfl
    refine (g_ld rfl rfl rfl (g_c rfl rfl (g_pi rfl rfl rfl rfl rfl rfl rfl (g_ld rfl rfl rfl (g_ld rfl rfl rfl (g_cv rfl (s_takesSign (k := k) (p := 12 + qN q) (o := 0) (s := c - 48) hD2 h4 hQ.2.2.2.1 hQ.2.2.1 (by omega) (by omega) hpl hop (by omega) (by omega) (sub48 h48)) (by omega) rfl rfl rfl rfl rfl rfl rfl rfl rfl (fun zv53 zS53 zh53 => ?_)))))))
    have hz := zh53
    obtain ⟨rfl, hA, -⟩ := zh53
    refine (g_ri rfl rfl ?_ ?_)
    · rfl
    · have hA0 : Ag [10, 11, 12, 13, 14, 15, 16, 17] S (z_ui (z_ui (z_ui (z_ui (z_ui S 17 4 1) 17 3 (12 + (z_ui S 17 4 1).1 17 2)) 15 (12 + qN q) ((z_ui (z_ui S 17 4 1) 17 3 (12 + (z_ui S 17 4 1).1 17 2)).1 10 6)) 16 (12 + qN q) ((z_ui (z_ui S 17 4 1) 17 3 (12 + (z_ui S 17 4 1).1 17 2)).1 10 6)) 17 1 3) := ((((Ag.rf.ui (by decide)).ui (by decide)).ui (by decide)).ui (by decide)).ui (by decide)
      have hP2 := hQ.2.2.1 (c - 48)
      refine rd_yes (hA0.tr (hA.mono (by simp +contextual))) e rfl (RdX.ofS (q := (3, upT (qB q) (12 + qN q) [], qK q, qN q, 1)) (qok_step hQ e) hz ?_ ?_ hpl (by omega) (Or.inl ⟨rfl, rfl⟩) ?_)
      · rw [ui_at, pk_us]; rfl
      · rw [ui_at, pk_un (by decide), ui_ne (by decide), ui_ne (by decide), ui_at, pk_un (by decide), ui_at, pk_un (by decide)]; exact h.2.2.1
      · show 0 + bP (qB q) (c - 48) ≤ _
        omega
  · have g : ¬ (48 ≤ c ∧ c < 48 + qN q) := fun g => by
      rw [sub48 g.1, h.2.2.1] at zc14
      exact zc14 (nI_lt (by omega) (by omega))
    rw [if_neg g] at e
    exact rd_no Ag.rf e rfl
theorem sg6' {q : Ps} (hQ : QOk q) (h : sg (qB q) b c = some s) : s < 6 := by
  have := hQ.2.1
  rcases sg_lt h with g | g | g <;> omega
theorem s_takesArgument (h : RdX S q j) (h0 : qH q = 3) (hc : c ≤ 126) (hj : j < 90) : Sp (l, wX, D, ad, cA) 3 m_Rdr_takesArgument [.ref 17, .int (nI c)] S (rdPost S q c j) := by
  have hQ := h.1
  have h4 := hQ.2.1
  have hN : qN q < bN (qB q) := hQ.2.2.2.2.2.1 (by omega)
  obtain ⟨k, hk, hd⟩ := h.2.2.2.1
  obtain ⟨h3, hO⟩ := h.2.2.2.2.1 (Or.inl h0)
  have ho0 : 0 < qO q := hQ.2.2.2.2.2.2.1 (Or.inl h0)
  have hO2 := h.2.2.2.2.2
  have ec : cur q = 12 + qN q := by unfold cur; rw [if_pos h0]
  rw [ec] at hd h3
  have e : stp q c = st3 q c := stp_3 h0
  unfold st3 at e
  refine Sp.of dk_Rdr_takesArgument ok_Rdr_takesArgument rfl (g_ld rfl rfl rfl (g_ld rfl rfl rfl (g_cv rfl (s_signOf hd.un h4 hQ.2.2.2.1 hQ.2.2.1 h.2.2.1 (by omega) hc) (by omega) rfl rfl rfl rfl rfl rfl rfl rfl rfl (z_k1 (g_st rfl rfl rfl rfl rfl (g_ld rfl rfl rfl (g_gr rfl rfl rfl rfl rfl (g_ld rfl rfl rfl (g_cv rfl (s_parametersOf (by decide)) (by omega) rfl rfl rfl rfl rfl rfl rfl rfl rfl (z_k1 (g_if rfl rfl (fun zc14 => (g_c rfl rfl (g_ri rfl rfl rfl ?_))) (fun zc14 => ?_))))))))))))
  · cases hs : sg (qB q) (qN q) c with
    | none =>
      unfold sgI at zc14
      rw [hs] at zc14
      exact absurd (by unfold f_par; rw [if_neg (by decide)]) zc14
    | some s =>
      have hs6 := sg6' hQ hs
      unfold sgI at zc14
      rw [hs] at zc14 e
      have hP := df_par hd h4 hQ.2.2.2.1 (s := s) (by omega)
      have g : ¬ bP (qB q) s = 0 := fun g => zc14 (by
        show f_par S 10 (nI s) = 0
        rw [hP, g]; rfl)
      have e' : stp q c = none := by rw [e]; exact if_neg g
      exact rd_no Ag.rf e' rfl
  · cases hs : sg (qB q) (qN q) c with
    | none =>
      rw [hs] at e
      have hsi : sgI (qB q) (qN q) c = -1 := by unfold sgI; rw [hs]
      refine (g_ld rfl rfl rfl (g_ld rfl rfl rfl (g_cv rfl (s_takesNo hsi) (by omega) rfl rfl rfl rfl rfl rfl rfl rfl rfl (fun zv19 zS19 zh19 => ?_))))
      obtain ⟨rfl, rfl⟩ := zh19
      refine (g_if rfl rfl (fun zc22 => (g_c rfl rfl (g_ri rfl rfl rfl ?_))) (fun zc22 => (g_c rfl rfl (g_go rfl (g_ri rfl rfl rfl ?_)))))
      · exact rd_no Ag.rf e rfl
      · exact absurd rfl zc22
    | some s =>
      have hs6 := sg6' hQ hs
      have hsi : sgI (qB q) (qN q) c = nI s := by unfold sgI; rw [hs]
      rw [hs] at e
      have hP := df_par hd h4 hQ.2.2.2.1 (s := s) (by omega)
      have hP2 := hQ.2.2.1 s
      have g : bP (qB q) s = 0 := by
        rw [hsi, hP] at zc14
        exact eq_n (b := 0) (Decidable.not_not.mp zc14)
      have e' : stp q c = some (stS q 3 (12 + qN q) (qO q - 1) s) := by rw [e]; exact if_pos g
      refine (g_ld rfl rfl rfl (g_ld rfl rfl rfl (g_cv rfl (s_takesSign (o := qO q - 1) hd h4 hQ.2.2.2.1 hQ.2.2.1 (by omega) (by omega) h3 (by rw [hO, Nat.sub_add_cancel ho0]) (by omega) hs6 hsi) (by omega) rfl rfl rfl rfl rfl rfl rfl rfl rfl (fun zv19 zS19 zh19 => ?_))))
      have hz := zh19
      obtain ⟨rfl, hA, -⟩ := zh19
      refine (g_if rfl rfl (fun zc22 => (g_c rfl rfl (g_ri rfl rfl rfl ?_))) (fun zc22 => (g_c rfl rfl (g_go rfl (g_ri rfl rfl rfl ?_)))))
      · exact absurd zc22 (by decide)
      · refine rd_yes (hA.mono (by simp +contextual)) e' rfl (RdX.ofS (qok_step hQ e') hz (by rw [h.2.1, h0]) h.2.2.1 h3 (by omega) (Or.inl ⟨rfl, rfl⟩) (by omega))
end
