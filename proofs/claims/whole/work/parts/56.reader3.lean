/-! the Reader: counts, bodies, what is above -/
section
variable {l : Launch} {D : va_G} {ad : Nat → Nat} {cA : ClassId} {x y z w : Int32} {S S' S0 : zS} {B : Bk} {K : Nat → Nat} {n p k b c s o j r : Nat} {q q' : Ps}
theorem stp_0 (h : qH q = 0) : stp q c = st0 q c := by unfold stp; rw [h]; rfl
theorem stp_1 (h : qH q = 1) : stp q c = st1 q c := by unfold stp; rw [h]; rfl
theorem stp_2 (h : qH q = 2) : stp q c = st2 q c := by unfold stp; rw [h]; rfl
theorem stp_3 (h : qH q = 3) : stp q c = st3 q c := by unfold stp; rw [h]; rfl
theorem stp_4 (h : qH q = 4) : stp q c = st4 q c := by unfold stp; rw [h]; rfl
theorem stp_5 (h : qH q = 5) : stp q c = st5 q c := by unfold stp; rw [h]; rfl
theorem rd_no {v : Value} (hA : Ag [10, 11, 12, 13, 14, 15, 16, 17] S S') (h : stp q c = none) (hv : v = .int 0) : rdPost S q c j v S' := ⟨hA, Or.inl ⟨h, hv⟩⟩
theorem rd_yes {v : Value} (hA : Ag [10, 11, 12, 13, 14, 15, 16, 17] S S') (h : stp q c = some q') (hv : v = .int 1) (hR : RdX S' q' (j + 1)) : rdPost S q c j v S' := ⟨hA, Or.inr ⟨q', h, hv, hR⟩⟩
theorem df_up {T U : zS} {j1 : Nat} (hk : j ≤ j1) (h : ∃ k, k ≤ j ∧ DfX T B K k 99) (hT : ∀ i, 10 ≤ i → i ≤ 16 → U.1 i = T.1 i) : ∃ k, k ≤ j1 ∧ DfX U B K k 99 := by
  obtain ⟨k, h1, h2⟩ := h
  exact ⟨k, by omega, h2.ag hT⟩
theorem s_takesCount (h : RdX S q j) (h0 : qH q = 0) (hc : c ≤ 126) (hj : j < 90) : Sp (l, wX, D, ad, cA) 1 m_Rdr_takesCount [.ref 17, .int (nI c)] S (rdPost S q c j) := by
  have hQ := h.1
  have h4 := hQ.2.1
  obtain ⟨k, hk, hd⟩ := h.df
  have e : stp q c = st0 q c := stp_0 h0
  unfold st0 at e
  by_cases h59 : c = 59
  · rw [if_pos h59] at e
    refine Sp.of dk_Rdr_takesCount ok_Rdr_takesCount rfl (g_ld rfl rfl rfl (g_c rfl rfl (g_if rfl rfl (fun zc3 => ?_) (fun zc3 => (g_ld rfl rfl rfl (g_c rfl rfl (g_pi rfl rfl rfl rfl rfl rfl rfl (g_ld rfl rfl rfl (g_gr rfl rfl rfl rfl rfl (g_gi rfl rfl rfl rfl rfl (g_if rfl rfl (fun zc18 => (g_c rfl rfl (g_ri rfl rfl rfl ?_))) (fun zc18 => (g_c rfl rfl (g_go rfl (g_ri rfl rfl rfl ?_)))))))))))))))
    · exact absurd (by rw [h59]; rfl) zc3
    · rw [ui_ne (by decide), hd.1] at zc18
      have hn : ¬ 0 < bN (qB q) := fun g => by
        have := le_n (b := 0) zc18
        omega
      rw [if_neg hn] at e
      exact rd_no (Ag.rf.ui (by decide)) e rfl
    · rw [ui_ne (by decide), hd.1] at zc18
      have hn : 0 < bN (qB q) := nle_n (b := 0) zc18
      rw [if_pos hn] at e
      refine rd_yes (Ag.rf.ui (by decide)) e rfl (RdX.mk' (qok_step hQ e) (by rw [ui_at, pk_us]; rfl) (by rw [ui_at, pk_un (by decide)]; exact h.2.2.1) (df_up (by omega) h.df (fun i _ _ => ui_ne (by omega))) ⟨by show ¬ 1 = 3; decide, by show ¬ 1 = 5; decide⟩ (by have := h.2.2.2.2.2; show qO q ≤ _; omega))
  · rw [if_neg h59] at e
    refine Sp.of dk_Rdr_takesCount ok_Rdr_takesCount rfl (g_ld rfl rfl rfl (g_c rfl rfl (g_if rfl rfl (fun zc3 => (g_ld rfl rfl rfl (g_c rfl rfl (g_bin rfl rfl (g_st rfl rfl rfl rfl rfl (g_ld rfl rfl rfl (g_if rfl rfl (fun zc33 => (g_c rfl rfl (g_ri rfl rfl rfl ?_))) (fun zc33 => (g_ld rfl rfl rfl (g_c rfl rfl (g_if rfl rfl (fun zc38 => (g_c rfl rfl (g_ri rfl rfl rfl ?_))) (fun zc38 => ?_)))))))))))) (fun zc3 => ?_))))
    · have g : ¬ (48 ≤ c ∧ c ≤ 50 ∧ bN (qB q) < 4) := fun g => by
        rw [sub48 g.1] at zc33
        exact absurd zc33 (nI_pos (by omega))
      rw [if_neg g] at e
      exact rd_no Ag.rf e rfl
    · have g : ¬ (48 ≤ c ∧ c ≤ 50 ∧ bN (qB q) < 4) := fun g => by
        rw [sub48 g.1] at zc38
        have := lt_n (a := 2) zc38
        omega
      rw [if_neg g] at e
      exact rd_no Ag.rf e rfl
    · have h48 : 48 ≤ c := Nat.le_of_not_lt (fun g => neg48 _ g (i_ge zc33))
      rw [sub48 h48] at zc38 ⊢
      have h50 : c ≤ 50 := by
        have := nlt_n (a := 2) zc38
        omega
      by_cases hn : bN (qB q) < 4
      · rw [if_pos ⟨h48, h50, hn⟩] at e
        refine (g_ld rfl rfl rfl (g_gr rfl rfl rfl rfl rfl (g_ld rfl rfl rfl (g_cv rfl (s_addClass hn hd.1) (by omega) rfl rfl rfl rfl rfl rfl rfl rfl rfl (fun zv46 zS46 zh46 => ?_)))))
        obtain ⟨rfl, rfl⟩ := zh46
        refine (g_if rfl rfl (fun zc49 => (g_c rfl rfl (g_ri rfl rfl rfl ?_))) (fun zc49 => (g_c rfl rfl (g_go rfl (g_ri rfl rfl rfl ?_)))))
        · exact absurd zc49 (by decide)
        · refine rd_yes ((Ag.rf.ui (by decide)).ui (by decide)) e rfl (RdX.mk' (qok_step hQ e) (by rw [ui_ne (by decide), ui_ne (by decide), h.2.1, h0]; rfl) (by rw [ui_ne (by decide), ui_ne (by decide)]; exact h.2.2.1) ⟨k, by omega, hd.cls hn rfl⟩ ⟨by show ¬ 0 = 3; decide, by show ¬ 0 = 5; decide⟩ (by have := h.2.2.2.2.2; show qO q ≤ _; omega))
      · rw [if_neg (fun g => hn g.2.2)] at e
        have e4 : bN (qB q) = 4 := by omega
        refine (g_ld rfl rfl rfl (g_gr rfl rfl rfl rfl rfl (g_ld rfl rfl rfl (g_cv rfl (s_addClass4 (by rw [hd.1, e4])) (by omega) rfl rfl rfl rfl rfl rfl rfl rfl rfl (fun zv46 zS46 zh46 => ?_)))))
        obtain ⟨rfl, rfl⟩ := zh46
        refine (g_if rfl rfl (fun zc49 => (g_c rfl rfl (g_ri rfl rfl rfl ?_))) (fun zc49 => (g_c rfl rfl (g_go rfl (g_ri rfl rfl rfl ?_)))))
        · exact rd_no Ag.rf e rfl
        · exact absurd rfl zc49
    · exact absurd (eq_n (b := 59) (Decidable.not_not.mp zc3)) h59
theorem s_takesBody (h : RdX S q j) (h0 : qH q = 1) (hc : c ≤ 126) (hj : j < 90) : Sp (l, wX, D, ad, cA) 0 m_Rdr_takesBody [.ref 17, .int (nI c)] S (rdPost S q c j) := by
  have hQ := h.1
  have e : stp q c = st1 q c := stp_1 h0
  have hO := h.2.2.2.2.2
  unfold st1 at e
  refine Sp.of dk_Rdr_takesBody ok_Rdr_takesBody rfl (g_ld rfl rfl rfl (g_ld rfl rfl rfl (g_c rfl rfl (g_if rfl rfl (fun zc4 => (g_c rfl rfl (g_pi rfl rfl rfl rfl rfl rfl rfl (g_ld rfl rfl rfl (g_c rfl rfl (g_if rfl rfl (fun zc18 => (g_c rfl rfl (g_go rfl (g_ri rfl rfl rfl ?_)))) (fun zc18 => (g_ld rfl rfl rfl (g_c rfl rfl (g_if rfl rfl (fun zc24 => (g_c rfl rfl (g_ri rfl rfl rfl ?_))) (fun zc24 => (g_c rfl rfl (g_go rfl (g_ri rfl rfl rfl ?_)))))))))))))) (fun zc4 => (g_c rfl rfl (g_go rfl (g_pi rfl rfl rfl rfl rfl rfl rfl (g_ld rfl rfl rfl (g_c rfl rfl (g_if rfl rfl (fun zc18 => (g_c rfl rfl (g_go rfl (g_ri rfl rfl rfl ?_)))) (fun zc18 => (g_ld rfl rfl rfl (g_c rfl rfl (g_if rfl rfl (fun zc24 => (g_c rfl rfl (g_ri rfl rfl rfl ?_))) (fun zc24 => (g_c rfl rfl (g_go rfl (g_ri rfl rfl rfl ?_)))))))))))))))))))
  · exact absurd zc18 zc4
  · have c1 : ¬ c = 60 := fun g => zc4 (by rw [g]; rfl)
    have c2 : ¬ c = 45 := fun g => zc24 (by rw [g]; rfl)
    rw [if_neg c1, if_neg c2] at e
    exact rd_no (Ag.rf.ui (by decide)) e rfl
  · have c1 : ¬ c = 60 := fun g => zc4 (by rw [g]; rfl)
    have c2 : c = 45 := eq_n (b := 45) (Decidable.not_not.mp zc24)
    rw [if_neg c1, if_pos c2] at e
    exact rd_yes (Ag.rf.ui (by decide)) e rfl (RdX.mk' (qok_step hQ e) (by rw [ui_at, pk_us]; rfl) (by rw [ui_at, pk_un (by decide)]; exact h.2.2.1) (df_up (by omega) h.df (fun i _ _ => ui_ne (by omega))) ⟨by show ¬ 4 = 3; decide, by show ¬ 4 = 5; decide⟩ (by show qO q ≤ _; omega))
  · have c1 : c = 60 := eq_n (b := 60) (Decidable.not_not.mp zc4)
    rw [if_pos c1] at e
    exact rd_yes (Ag.rf.ui (by decide)) e rfl (RdX.mk' (qok_step hQ e) (by rw [ui_at, pk_us]; rfl) (by rw [ui_at, pk_un (by decide)]; exact h.2.2.1) (df_up (by omega) h.df (fun i _ _ => ui_ne (by omega))) ⟨by show ¬ 2 = 3; decide, by show ¬ 2 = 5; decide⟩ (by show qO q ≤ _; omega))
  · exact absurd (Decidable.not_not.mp zc4) zc18
  · exact absurd (Decidable.not_not.mp zc4) zc18
end
