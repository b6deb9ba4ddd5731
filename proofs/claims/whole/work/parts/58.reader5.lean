/-! the Reader: members; takes -/
section
variable {l : Launch} {D : va_G} {ad : Nat → Nat} {cA : ClassId} {x y z w : Int32} {S S' S0 : zS} {B : Bk} {K : Nat → Nat} {n p k b c s o j r : Nat} {q q' : Ps}
theorem mb_state (x : Int32) (hN : S.1 17 2 = nI (qN q)) : (z_ui (z_ui (z_ui S 17 4 1) 17 3 x) 17 1 5).1 17 1 = 5 ∧ (z_ui (z_ui (z_ui S 17 4 1) 17 3 x) 17 1 5).1 17 2 = nI (qN q) ∧ (z_ui (z_ui (z_ui S 17 4 1) 17 3 x) 17 1 5).1 17 3 = x ∧ (z_ui (z_ui (z_ui S 17 4 1) 17 3 x) 17 1 5).1 17 4 = 1 := by
  refine ⟨?_, ?_, ?_, ?_⟩
  · rw [ui_at, pk_us]
  · rw [ui_at, pk_un (by decide), ui_at, pk_un (by decide), ui_at, pk_un (by decide)]; exact hN
  · rw [ui_at, pk_un (by decide), ui_at, pk_us]
  · rw [ui_at, pk_un (by decide), ui_at, pk_un (by decide), ui_at, pk_us]
theorem s_takesMember (h : RdX S q j) (h0 : qH q = 4) (hc : c ≤ 126) (hj : j < 90) : Sp (l, wX, D, ad, cA) 4 m_Rdr_takesMember [.ref 17, .int (nI c)] S (rdPost S q c j) := by
  have hQ := h.1
  have h4 := hQ.2.1
  have hO := h.2.2.2.2.2
  have hN : qN q < bN (qB q) := hQ.2.2.2.2.2.1 (by omega)
  obtain ⟨k, hk, hd⟩ := h.df
  have e : stp q c = st4 q c := stp_4 h0
  unfold st4 at e
  refine Sp.of dk_Rdr_takesMember ok_Rdr_takesMember rfl (g_ld rfl rfl rfl (g_c rfl rfl (g_if rfl rfl (fun zc3 => ?_) (fun zc3 => (g_ld rfl rfl rfl (g_dup rfl rfl (g_gi rfl rfl rfl rfl rfl (g_c rfl rfl (g_bin rfl rfl (g_pi rfl rfl rfl rfl rfl rfl rfl (g_ld rfl rfl rfl (g_c rfl rfl (g_pi rfl rfl rfl rfl rfl rfl rfl (g_ld rfl rfl rfl (g_gi rfl rfl rfl rfl rfl (g_ld rfl rfl rfl (g_gr rfl rfl rfl rfl rfl (g_gi rfl rfl rfl rfl rfl (g_if rfl rfl (fun zc32 => (g_c rfl rfl (g_ri rfl rfl rfl ?_))) (fun zc32 => (g_c rfl rfl (g_go rfl (g_ri rfl rfl rfl ?_)))))))))))))))))))))))
  · have c1 : ¬ c = 44 := fun g => zc3 (by rw [g]; rfl)
    rw [if_neg c1] at e
    refine (g_lds rfl rfl (g_ld rfl rfl rfl (g_un rfl rfl (g_cvs rfl (s_indexOf) (by decide) rfl rfl rfl rfl rfl rfl rfl (z_k1 (g_st rfl rfl rfl rfl rfl (g_ld rfl rfl rfl (g_c rfl rfl (g_pi rfl rfl rfl rfl rfl rfl rfl (g_ld rfl rfl rfl (g_c rfl rfl (g_ld rfl rfl rfl (g_gi rfl rfl rfl rfl rfl (g_bin rfl rfl (g_ld rfl rfl rfl (g_gr rfl rfl rfl rfl rfl (g_ld rfl rfl rfl (g_gi rfl rfl rfl rfl rfl (g_cv rfl (s_membersOf (by decide)) (by omega) rfl rfl rfl rfl rfl rfl rfl rfl rfl (z_k1 (g_bin rfl rfl (g_pi rfl rfl rfl rfl rfl rfl rfl (g_ld rfl rfl rfl (g_c rfl rfl (g_pi rfl rfl rfl rfl rfl rfl rfl (g_ld rfl rfl rfl (g_if rfl rfl (fun zc82 => (g_c rfl rfl (g_ri rfl rfl rfl ?_))) (fun zc82 => ?_))))))))))))))))))))))))))))
    · rw [kIx_eq c (by omega), kix_I] at zc82
      cases hx : kix c with
      | none =>
        rw [hx] at e
        exact rd_no (((Ag.rf.ui (by decide)).ui (by decide)).ui (by decide)) e rfl
      | some kd =>
        rw [hx] at zc82
        have := kix_lt hx
        exact absurd zc82 (nI_pos (by omega))
    · rw [kIx_eq c (by omega), kix_I] at zc82
      cases hx : kix c with
      | none =>
        rw [hx] at zc82
        exact absurd (by decide) zc82
      | some kd =>
        rw [hx] at e
        have hkd := kix_lt hx
        have hM3 := hQ.2.2.2.2.1 (qN q)
        have ekd : f_ix ((nI c).toUInt32 % 65536).toInt32 = nI kd := by rw [kIx_eq c (by omega), kix_I, hx]
        rw [ekd]
        have hpx : 3 * (z_ui S 17 4 1).1 17 2 + f_mem (z_ui S 17 4 1) 10 ((z_ui S 17 4 1).1 17 2) = nI (3 * qN q + bM (qB q) (qN q)) := by
          have h1 : (z_ui S 17 4 1).1 17 2 = nI (qN q) := by rw [ui_at, pk_un (by decide)]; exact h.2.2.1
          rw [h1, df_mem (hd.ag (S' := z_ui S 17 4 1) (fun i _ _ => ui_ne (by omega))) (by omega), show (3 : Int32) = nI 3 from rfl, pk_mul, nI_add]
        rw [hpx]
        obtain ⟨g1, g2, g3, g4⟩ := mb_state (S := S) (q := q) (nI (3 * qN q + bM (qB q) (qN q))) h.2.2.1
        have hd2 : DfX (z_ui (z_ui (z_ui S 17 4 1) 17 3 (nI (3 * qN q + bM (qB q) (qN q)))) 17 1 5) (qB q) (qK q) k 99 := hd.ag (fun i _ _ => by rw [ui_ne (by omega), ui_ne (by omega), ui_ne (by omega)])
        have hA0 : Ag [10, 11, 12, 13, 14, 15, 16, 17] S (z_ui (z_ui (z_ui S 17 4 1) 17 3 (nI (3 * qN q + bM (qB q) (qN q)))) 17 1 5) := ((Ag.rf.ui (by decide)).ui (by decide)).ui (by decide)
        generalize z_ui (z_ui (z_ui S 17 4 1) 17 3 (nI (3 * qN q + bM (qB q) (qN q)))) 17 1 5 = T at g1 g2 g3 g4 hd2 hA0 ⊢
        by_cases h3 : bM (qB q) (qN q) < 3
        · have e' : stp q c = some (5, (bN (qB q), bP (qB q), upN (bM (qB q)) (qN q) (bM (qB q) (qN q) + 1), fun j => if j = 3 * qN q + bM (qB q) (qN q) then [] else bT (qB q) j), upN (qK q) (3 * qN q + bM (qB q) (qN q)) kd, qN q, 1) := by rw [e]; exact if_pos h3
          refine (g_ld rfl rfl rfl (g_gr rfl rfl rfl rfl rfl (g_ld rfl rfl rfl (g_gi rfl rfl rfl rfl rfl (g_ld rfl rfl rfl ?_)))))
          rw [g2]
          refine (g_cv rfl (s_addMember hd2 h4 hN h3) (by omega) rfl rfl rfl rfl rfl rfl rfl rfl rfl (fun zv94 zS94 zh94 => ?_))
          obtain ⟨rfl, rfl⟩ := zh94
          refine (g_if rfl rfl (fun zc97 => (g_c rfl rfl (g_ri rfl rfl rfl ?_))) (fun zc97 => (g_c rfl rfl (g_go rfl (g_ri rfl rfl rfl ?_)))))
          · exact absurd zc97 (by decide)
          · have ec : cur (5, (bN (qB q), bP (qB q), upN (bM (qB q)) (qN q) (bM (qB q) (qN q) + 1), fun j => if j = 3 * qN q + bM (qB q) (qN q) then [] else bT (qB q) j), upN (qK q) (3 * qN q + bM (qB q) (qN q)) kd, qN q, 1) = 3 * qN q + bM (qB q) (qN q) := by
              show 3 * qN q + (upN (bM (qB q)) (qN q) (bM (qB q) (qN q) + 1) (qN q) - 1) = _
              unfold upN
              rw [if_pos rfl]
              rfl
            have hdm := hd2.member (b := qN q) (pl := 3 * qN q + bM (qB q) (qN q)) (kd := kd) (by omega) (by omega) rfl rfl rfl
            refine rd_yes ((((hA0.ui (by decide)).ui (by decide)).ui (by decide)).ui (by decide)) e' rfl ⟨qok_step hQ e', ?_, ?_, ⟨k, by omega, ?_⟩, fun _ => ⟨?_, ?_⟩, by show 1 ≤ _; omega⟩
            · rw [ui_ne (by decide), ui_ne (by decide), ui_ne (by decide), ui_ne (by decide)]; exact g1
            · rw [ui_ne (by decide), ui_ne (by decide), ui_ne (by decide), ui_ne (by decide)]; exact g2
            · rw [ec]; exact hdm
            · rw [ec, ui_ne (by decide), ui_ne (by decide), ui_ne (by decide), ui_ne (by decide)]; exact g3
            · rw [ui_ne (by decide), ui_ne (by decide), ui_ne (by decide), ui_ne (by decide)]; exact g4
        · have e' : stp q c = none := by rw [e]; exact if_neg h3
          refine (g_ld rfl rfl rfl (g_gr rfl rfl rfl rfl rfl (g_ld rfl rfl rfl (g_gi rfl rfl rfl rfl rfl (g_ld rfl rfl rfl ?_)))))
          rw [g2]
          refine (g_cv rfl (s_addMember3 hd2 h4 hN (by omega)) (by omega) rfl rfl rfl rfl rfl rfl rfl rfl rfl (fun zv94 zS94 zh94 => ?_))
          obtain ⟨rfl, rfl⟩ := zh94
          refine (g_if rfl rfl (fun zc97 => (g_c rfl rfl (g_ri rfl rfl rfl ?_))) (fun zc97 => (g_c rfl rfl (g_go rfl (g_ri rfl rfl rfl ?_)))))
          · exact rd_no hA0 e' rfl
          · exact absurd rfl zc97
  · have c1 : c = 44 := eq_n (b := 44) (Decidable.not_not.mp zc3)
    rw [if_pos c1] at e
    rw [ui_at, pk_un (by decide), ui_at, pk_us, h.2.2.1, ui_ne (by decide), ui_ne (by decide), hd.1, ← nI_succ] at zc32
    have g : ¬ qN q + 1 < bN (qB q) := fun g => by
      have := le_n zc32
      omega
    rw [if_neg g] at e
    exact rd_no ((Ag.rf.ui (by decide)).ui (by decide)) e rfl
  · have c1 : c = 44 := eq_n (b := 44) (Decidable.not_not.mp zc3)
    rw [if_pos c1] at e
    rw [ui_at, pk_un (by decide), ui_at, pk_us, h.2.2.1, ui_ne (by decide), ui_ne (by decide), hd.1, ← nI_succ] at zc32
    have g : qN q + 1 < bN (qB q) := nle_n zc32
    rw [if_pos g] at e
    refine rd_yes ((Ag.rf.ui (by decide)).ui (by decide)) e rfl (RdX.mk' (qok_step hQ e) (by rw [ui_at, pk_us]; rfl) ?_ (df_up (by omega) h.df (fun i _ _ => by rw [ui_ne (by omega), ui_ne (by omega)])) ⟨by show ¬ 1 = 3; decide, by show ¬ 1 = 5; decide⟩ (by show qO q ≤ _; omega))
    rw [ui_at, pk_un (by decide), ui_at, pk_us, h.2.2.1]
    exact (nI_succ _).symm
end
