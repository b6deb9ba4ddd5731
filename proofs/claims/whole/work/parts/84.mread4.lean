/-! the reference's reader: arguments, members, signs -/
section
variable {l : Launch} {D : va_G} {ad : Nat → Nat} {cA : ClassId} {x y z w : Int32} {S S' S0 : zS} {m : Mt} {B : Bk} {pg t : List Nat} {n p k r c j s o : Nat} {q q' : Ps} {Q : Nat → Prop}
theorem arg_tail (h : RmX S pg q j) (h0 : qH q = 3) (hc : c ≤ 126) (hj : pg.getD j 0 = c) {T : zS} (hT : T.1 = (z_ui (z_ui S 0 5 (nI (qO q - 1))) 0 2 (nI (if qO q - 1 = 0 then 4 else 3))).1) (hT2' : T.2 = S.2) : Go (l, wM, D, ad, cA) 2 m_M_isArgument (gdPost S pg q c j) 26 [some (.ref 0), some (.int (nI c))] [] T := by
  have hQ := h.1
  have h4 := hQ.2.1
  have hN : qN q < bN (qB q) := hQ.2.2.2.2.2.1 (by omega)
  have hP2 := hQ.2.2.1 (qN q)
  have ho0 : 0 < qO q := hQ.2.2.2.2.2.2.1 (Or.inl h0)
  have e : stp q c = st3 q c := stp_3 h0
  unfold st3 at e
  have hA : Am [2, 3, 4, 5] [2, 3, 4, 5] S T := by
    have : Am [2, 3, 4, 5] [2, 3, 4, 5] S (z_ui (z_ui S 0 5 (nI (qO q - 1))) 0 2 (nI (if qO q - 1 = 0 then 4 else 3))) := (Am.rf.fd (by decide)).fd (by decide)
    unfold Am at this ⊢
    rw [hT, hT2']
    exact ⟨this.1, this.2.1, rfl⟩
  have hT2 : T.1 2 (qN q) = nI (bP (qB q) (qN q)) := by rw [hT, ui_ne (by decide), ui_ne (by decide)]; exact h.2.2.2.2.2.1 _ hN
  have hT4 : T.1 0 4 = nI (qN q) := by rw [hT, ui_at, pk_un (by decide), ui_at, pk_un (by decide)]; exact h.2.2.2.1
  have hT3 : T.1 0 3 = nI (bN (qB q)) := by rw [hT, ui_at, pk_un (by decide), ui_at, pk_un (by decide)]; exact h.2.2.1
  obtain ⟨i1, i2, i3⟩ := sg_iff (B := qB q) (k := qN q) (c := c) h4
  have yes : ∀ s, sg (qB q) (qN q) c = some s → bP (qB q) s = 0 → gdPost S pg q c j (.int 1) T := by
    intro s hs hz
    rw [hs] at e
    have e' : stp q c = some (stS q 3 (12 + qN q) (qO q - 1) s) := by rw [e]; exact if_pos hz
    refine gd_yes hA e' rfl ?_
    have := RmX.ofS (S' := T) (p := 12 + qN q) (o := qO q - 1) (s := s) h (Or.inl h0) (by rw [h0]; exact qok_step hQ e') (by unfold cur; rw [if_pos h0]) (by omega) (by rw [hj]; exact sgc_eq h4 hs) (by rw [hT, ui_ne (by decide), ui_ne (by decide)]) (by rw [hT, ui_ne (by decide), ui_ne (by decide)]) (by rw [hT, ui_ne (by decide), ui_ne (by decide)]) (by rw [hT, ui_ne (by decide), ui_ne (by decide)]) (by rw [hT3]; exact h.2.2.1.symm) (by rw [hT4]; exact h.2.2.2.1.symm) (by rw [hT, ui_at, pk_us, hz, h0, Nat.add_zero]) (by rw [hT, ui_at, pk_un (by decide), ui_at, pk_us, hz, Nat.add_zero])
    rw [h0] at this
    exact this
  refine (g_ld rfl rfl rfl (g_ld rfl rfl rfl (g_cv rfl (s_isParameterSign (k := qN q) (p := bP (qB q) (qN q)) hT2 hT4 (by omega) hP2 hc) (by omega) rfl rfl rfl rfl rfl rfl rfl rfl rfl (z_k1 (g_if rfl rfl (fun zc31 => (g_c rfl rfl (g_go rfl (g_ri rfl rfl rfl ?_)))) (fun zc31 => (g_ld rfl rfl rfl (g_ld rfl rfl rfl (g_cv rfl (s_isClassSign hT3 h4 hc) (by omega) rfl rfl rfl rfl rfl rfl rfl rfl rfl (z_k1 (g_if rfl rfl (fun zc39 => (g_c rfl rfl (g_ri rfl rfl rfl ?_))) (fun zc39 => (g_ld rfl rfl rfl (g_gr rfl rfl rfl rfl rfl (g_ld rfl rfl rfl (g_c rfl rfl (g_bin rfl rfl (g_ald rfl rfl rfl ?_ (g_if rfl rfl (fun zc51 => (g_c rfl rfl (g_ri rfl rfl rfl ?_))) (fun zc51 => (g_c rfl rfl (g_go rfl (g_ri rfl rfl rfl ?_)))))))))))))))))))))))
  · obtain ⟨s, hs, hs4, -⟩ := i1 (b2_n.mp zc31)
    exact yes s hs (hQ.2.2.2.1 s (by omega))
  · have g1 := b2_0.mp (Decidable.not_not.mp zc31)
    have g2 := b2_0.mp zc39
    rw [i3 g1 g2] at e
    exact gd_no hA e rfl
  · have g2 := b2_n.mp zc39
    rw [sub48 g2.1]
    exact vp_in_nI (show c - 48 < 4 by omega) (by decide)
  · have g2 := b2_n.mp zc39
    rw [sub48 g2.1, nI_clamp (by omega), hT, ui_ne (by decide), ui_ne (by decide), h.2.2.2.2.2.1 _ (by omega)] at zc51
    rw [i2 g2] at e
    have hz : ¬ bP (qB q) (c - 48) = 0 := fun z => zc51 (by rw [z]; rfl)
    have e' : stp q c = none := by rw [e]; exact if_neg hz
    exact gd_no hA e' rfl
  · have g2 := b2_n.mp zc39
    have hPc := hQ.2.2.1 (c - 48)
    rw [sub48 g2.1, nI_clamp (by omega), hT, ui_ne (by decide), ui_ne (by decide), h.2.2.2.2.2.1 _ (by omega)] at zc51
    exact yes _ (i2 g2) (eq_n (b := 0) (Decidable.not_not.mp zc51))
theorem s_isArgument (h : RmX S pg q j) (h0 : qH q = 3) (hc : c ≤ 126) (hj : pg.getD j 0 = c) (hj90 : j < 90) : Sp (l, wM, D, ad, cA) 2 m_M_isArgument [.ref 0, .int (nI c)] S (gdPost S pg q c j) := by
  have hQ := h.1
  have ho0 : 0 < qO q := hQ.2.2.2.2.2.2.1 (Or.inl h0)
  have ho2 := h.2.2.2.2.2.2.2.2.2.2.2
  have e5 : S.1 0 5 - 1 = nI (qO q - 1) := by
    rw [h.2.2.2.2.1 (Or.inl h0), show (1 : Int32) = nI 1 from rfl, pk_sub (by omega)]
  refine Sp.of dk_M_isArgument ok_M_isArgument rfl (g_ld rfl rfl rfl (g_dup rfl rfl (g_gi rfl rfl rfl rfl rfl (g_c rfl rfl (g_bin rfl rfl (g_pi rfl rfl rfl rfl rfl rfl rfl (g_ld rfl rfl rfl (g_ld rfl rfl rfl (g_gi rfl rfl rfl rfl rfl (g_if rfl rfl (fun zc15 => (g_c rfl rfl (g_pi rfl rfl rfl rfl rfl rfl rfl ?_))) (fun zc15 => (g_c rfl rfl (g_go rfl (g_pi rfl rfl rfl rfl rfl rfl rfl ?_))))))))))))))
  · rw [ui_at, pk_us, e5] at zc15
    rw [e5]
    refine arg_tail h h0 hc hj ?_ rfl
    rw [if_neg (fun z => zc15 (by rw [z]; rfl))]
    rfl
  · rw [ui_at, pk_us, e5] at zc15
    rw [e5]
    refine arg_tail h h0 hc hj ?_ rfl
    rw [if_pos (eq_n (b := 0) (Decidable.not_not.mp zc15))]
    rfl
theorem ty_tail (h : RmX S pg q j) (h0 : qH q = 5) (hc : c ≤ 126) (hj : pg.getD j 0 = c) {T : zS} {o2 : Nat} (ho2 : o2 = qO q - 1 + (if 48 ≤ c ∧ c < 48 + bN (qB q) then bP (qB q) (c - 48) else 0)) (hT5 : T.1 0 5 = nI o2) (hTm : T.1 0 2 = nI (if o2 = 0 then 4 else 5)) (hA : Am [] [2, 5] S T) : Go (l, wM, D, ad, cA) 2 m_M_isTypeSign (gdPost S pg q c j) 52 [some (.ref 0), some (.int (nI c))] [] T := by
  have hQ := h.1
  have h4 := hQ.2.1
  have hN : qN q < bN (qB q) := hQ.2.2.2.2.2.1 (by omega)
  have hP2 := hQ.2.2.1 (qN q)
  have ho0 : 0 < qO q := hQ.2.2.2.2.2.2.1 (Or.inr h0)
  have hne3 : ¬ qH q = 3 := by omega
  have hO1 : qO q = qO q - 1 + 1 := by omega
  have e : stp q c = st5 q c := stp_5 h0
  unfold st5 at e
  have hA2 : Am [2, 3, 4, 5] [2, 3, 4, 5] S T := hA.mono (by simp) (by simp +contextual)
  have hT2 : T.1 2 (qN q) = nI (bP (qB q) (qN q)) := by rw [hA.1 2 (by decide) (by decide)]; exact h.2.2.2.2.2.1 _ hN
  have hT4 : T.1 0 4 = nI (qN q) := by rw [hA.2.1 4 (by decide)]; exact h.2.2.2.1
  have hT3 : T.1 0 3 = nI (bN (qB q)) := by rw [hA.2.1 3 (by decide)]; exact h.2.2.1
  obtain ⟨i1, i2, i3⟩ := sg_iff (B := qB q) (k := qN q) (c := c) h4
  have yes : ∀ s, sg (qB q) (qN q) c = some s → o2 = qO q - 1 + bP (qB q) s → gdPost S pg q c j (.int 1) T := by
    intro s hs hz
    rw [hs] at e
    have e' : stp q c = some (stS q 5 (pl5 q) (qO q - 1) s) := e
    refine gd_yes hA2 e' rfl ?_
    have := RmX.ofS (S' := T) (p := pl5 q) (o := qO q - 1) (s := s) h (Or.inr h0) (by rw [h0]; exact qok_step hQ e') (by unfold cur; rw [if_neg hne3, if_pos h0]) hO1 (by rw [hj]; exact sgc_eq h4 hs) (hA.1 2 (by decide) (by decide)) (hA.1 3 (by decide) (by decide)) (hA.1 4 (by decide) (by decide)) (hA.1 5 (by decide) (by decide)) (hA.2.1 3 (by decide)) (hA.2.1 4 (by decide)) (by rw [hTm, hz, h0]) (by rw [hT5, hz])
    rw [h0] at this
    exact this
  refine (g_ld rfl rfl rfl (g_ld rfl rfl rfl (g_cv rfl (s_isClassSign hT3 h4 hc) (by omega) rfl rfl rfl rfl rfl rfl rfl rfl rfl (z_k1 (g_if rfl rfl (fun zc57 => (g_c rfl rfl (g_go rfl (g_ri rfl rfl rfl ?_)))) (fun zc57 => (g_ld rfl rfl rfl (g_ld rfl rfl rfl (g_cv rfl (s_isParameterSign (k := qN q) (p := bP (qB q) (qN q)) hT2 hT4 (by omega) hP2 hc) (by omega) rfl rfl rfl rfl rfl rfl rfl rfl rfl (z_k1 (g_if rfl rfl (fun zc65 => (g_c rfl rfl (g_ri rfl rfl rfl ?_))) (fun zc65 => (g_c rfl rfl (g_go rfl (g_ri rfl rfl rfl ?_)))))))))))))))
  · have g := b2_n.mp zc57
    rw [if_pos g] at ho2
    exact yes _ (i2 g) ho2
  · have g := b2_0.mp (Decidable.not_not.mp zc57)
    have g1 := b2_0.mp zc65
    rw [i3 g1 g] at e
    exact gd_no hA2 e rfl
  · have g := b2_0.mp (Decidable.not_not.mp zc57)
    obtain ⟨s, hs, hs4, -⟩ := i1 (b2_n.mp zc65)
    rw [if_neg g] at ho2
    exact yes s hs (by rw [hQ.2.2.2.1 s (by omega)]; exact ho2)
theorem s_isTypeSign (h : RmX S pg q j) (h0 : qH q = 5) (hc : c ≤ 126) (hj : pg.getD j 0 = c) (hj90 : j < 90) : Sp (l, wM, D, ad, cA) 2 m_M_isTypeSign [.ref 0, .int (nI c)] S (gdPost S pg q c j) := by
  have hQ := h.1
  have h4 := hQ.2.1
  have ho0 : 0 < qO q := hQ.2.2.2.2.2.2.1 (Or.inr h0)
  have ho2 := h.2.2.2.2.2.2.2.2.2.2.2
  have e5 : S.1 0 5 - 1 = nI (qO q - 1) := by
    rw [h.2.2.2.2.1 (Or.inr h0), show (1 : Int32) = nI 1 from rfl, pk_sub (by omega)]
  have hT3 : (z_ui S 0 5 (S.1 0 5 - 1)).1 0 3 = nI (bN (qB q)) := by rw [ui_at, pk_un (by decide)]; exact h.2.2.1
  refine Sp.of dk_M_isTypeSign ok_M_isTypeSign rfl (g_ld rfl rfl rfl (g_dup rfl rfl (g_gi rfl rfl rfl rfl rfl (g_c rfl rfl (g_bin rfl rfl (g_pi rfl rfl rfl rfl rfl rfl rfl (g_ld rfl rfl rfl (g_ld rfl rfl rfl (g_cv rfl (s_isClassSign hT3 h4 hc) (by omega) rfl rfl rfl rfl rfl rfl rfl rfl rfl (z_k1 (g_if rfl rfl (fun zc15 => ?_) (fun zc15 => (g_ld rfl rfl rfl (g_dup rfl rfl (g_gi rfl rfl rfl rfl rfl (g_ld rfl rfl rfl (g_gr rfl rfl rfl rfl rfl (g_ld rfl rfl rfl (g_c rfl rfl (g_bin rfl rfl (g_ald rfl rfl rfl ?_ (g_bin rfl rfl (g_pi rfl rfl rfl rfl rfl rfl rfl ?_)))))))))))))))))))))))
  · have g := b2_0.mp zc15
    rw [e5]
    refine (g_ld rfl rfl rfl (g_ld rfl rfl rfl (g_gi rfl rfl rfl rfl rfl (g_if rfl rfl (fun zc41 => (g_c rfl rfl (g_pi rfl rfl rfl rfl rfl rfl rfl ?_))) (fun zc41 => (g_c rfl rfl (g_go rfl (g_pi rfl rfl rfl rfl rfl rfl rfl ?_))))))))
    · rw [ui_at, pk_us] at zc41
      exact ty_tail h h0 hc hj (o2 := qO q - 1) (by rw [if_neg g, Nat.add_zero]) (by rw [ui_at, pk_un (by decide), ui_at, pk_us]) (by rw [if_neg (fun z => zc41 (by rw [z]; rfl)), ui_at, pk_us]; rfl) ((Am.rf.fd (by decide)).fd (by decide))
    · rw [ui_at, pk_us] at zc41
      exact ty_tail h h0 hc hj (o2 := qO q - 1) (by rw [if_neg g, Nat.add_zero]) (by rw [ui_at, pk_un (by decide), ui_at, pk_us]) (by rw [if_pos (eq_n (b := 0) (Decidable.not_not.mp zc41)), ui_at, pk_us]; rfl) ((Am.rf.fd (by decide)).fd (by decide))
  · have g := b2_n.mp zc15
    rw [sub48 g.1]
    exact vp_in_nI (show c - 48 < 4 by omega) (by decide)
  · have g := b2_n.mp zc15
    have hPc := hQ.2.2.1 (c - 48)
    have hr : (z_ui S 0 5 (S.1 0 5 - 1)).1 2 (nI c - 48).toNatClampNeg = nI (bP (qB q) (c - 48)) := by rw [sub48 g.1, nI_clamp (by omega), ui_ne (by decide)]; exact h.2.2.2.2.2.1 _ (by omega)
    rw [hr, ui_at, pk_us, e5, nI_add]
    refine (g_ld rfl rfl rfl (g_ld rfl rfl rfl (g_gi rfl rfl rfl rfl rfl (g_if rfl rfl (fun zc41 => (g_c rfl rfl (g_pi rfl rfl rfl rfl rfl rfl rfl ?_))) (fun zc41 => (g_c rfl rfl (g_go rfl (g_pi rfl rfl rfl rfl rfl rfl rfl ?_))))))))
    · rw [ui_at, pk_us] at zc41
      exact ty_tail h h0 hc hj (o2 := qO q - 1 + bP (qB q) (c - 48)) (by rw [if_pos g]) (by rw [ui_at, pk_un (by decide), ui_at, pk_us]) (by rw [if_neg (fun z => zc41 (by rw [z]; rfl)), ui_at, pk_us]; rfl) (((Am.rf.fd (by decide)).fd (by decide)).fd (by decide))
    · rw [ui_at, pk_us] at zc41
      exact ty_tail h h0 hc hj (o2 := qO q - 1 + bP (qB q) (c - 48)) (by rw [if_pos g]) (by rw [ui_at, pk_un (by decide), ui_at, pk_us]) (by rw [if_pos (eq_n (b := 0) (Decidable.not_not.mp zc41)), ui_at, pk_us]; rfl) (((Am.rf.fd (by decide)).fd (by decide)).fd (by decide))
end
