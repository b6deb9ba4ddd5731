/-! the reference's reader: members; isGood, faultOf -/
section
variable {l : Launch} {D : va_G} {ad : Nat → Nat} {cA : ClassId} {x y z w : Int32} {S S' S0 : zS} {m : Mt} {B : Bk} {pg t : List Nat} {n p k r c j s o : Nat} {q q' : Ps} {Q : Nat → Prop}
theorem kIx_no (h : kix c = none) : kIx c = -1 := by rw [kix_I, h]
theorem kIx_yes (h : kix c = some k) : kIx c = nI k ∧ kIx c ≠ -1 := by
  have hk := kix_lt h
  have e : kIx c = nI k := by rw [kix_I, h]
  refine ⟨e, ?_⟩
  rw [e]
  have : ∀ k, k < 5 → nI k ≠ -1 := by decide
  exact this k hk
theorem s_isMember (h : RmX S pg q j) (h0 : qH q = 4) (hc : c ≤ 126) (hj : pg.getD j 0 = c) (hj90 : j < 90) : Sp (l, wM, D, ad, cA) 1 m_M_isMember [.ref 0, .int (nI j), .int (nI c)] S (gdPost S pg q c j) := by
  have hQ := h.1
  have h4 := hQ.2.1
  have hN : qN q < bN (qB q) := hQ.2.2.2.2.2.1 (by omega)
  have hM3 := hQ.2.2.2.2.1 (qN q)
  have e : stp q c = st4 q c := stp_4 h0
  unfold st4 at e
  have rM : S.1 4 (S.1 0 4).toNatClampNeg = nI (bM (qB q) (qN q)) := by rw [h.2.2.2.1, nI_clamp (by omega)]; exact (h.2.2.2.2.2.2.1 (qN q) (Or.inr ⟨rfl, by omega⟩)).2
  have hin : vp_in (S.1 0 4) 4 := by rw [h.2.2.2.1]; exact vp_in_nI (show qN q < 4 by omega) (by decide)
  have hcl : (S.1 0 4).toNatClampNeg = qN q := by rw [h.2.2.2.1, nI_clamp (by omega)]
  have go36 : (c = 44 → ¬ qN q + 1 < bN (qB q)) → Go (l, wM, D, ad, cA) 1 m_M_isMember (gdPost S pg q c j) 36 [some (.ref 0), some (.int (nI j)), some (.int (nI c))] [] S := by
    intro h44
    refine (g_ld rfl rfl rfl (g_cs rfl (s_kindBy (by omega)) (by omega) rfl rfl rfl rfl rfl rfl (z_k1 (g_c rfl rfl (g_if rfl rfl (fun zc41 => (g_c rfl rfl (g_ri rfl rfl rfl ?_))) (fun zc41 => (g_ld rfl rfl rfl (g_gr rfl rfl rfl rfl rfl (g_ld rfl rfl rfl (g_gi rfl rfl rfl rfl rfl (g_ald rfl rfl rfl ?_ (g_c rfl rfl (g_if rfl rfl (fun zc54 => ?_) (fun zc54 => (g_c rfl rfl (g_ri rfl rfl rfl ?_))))))))))))))))
    · have hk : kix c = none := by
        cases hx : kix c with
        | none => rfl
        | some k => exact absurd zc41 (kIx_yes hx).2
      have e' : stp q c = none := by
        rw [e]
        by_cases g : c = 44
        · rw [if_pos g, if_neg (h44 g)]
        · rw [if_neg g, hk]
      exact gd_no Am.rf e' rfl
    · exact hin
    · cases hx : kix c with
      | none => exact absurd (kIx_no hx) zc41
      | some kd =>
        have hkd := kix_lt hx
        have n44 : ¬ c = 44 := fun g => by rw [g, show kix 44 = none from by decide] at hx; cases hx
        rw [rM] at zc54
        have hM : ¬ bM (qB q) (qN q) = 3 := fun g => zc54 (by rw [g]; rfl)
        rw [if_neg n44, hx] at e
        have e' : stp q c = some (5, (bN (qB q), bP (qB q), upN (bM (qB q)) (qN q) (bM (qB q) (qN q) + 1), fun j => if j = 3 * qN q + bM (qB q) (qN q) then [] else bT (qB q) j), upN (qK q) (3 * qN q + bM (qB q) (qN q)) kd, qN q, 1) := by rw [e]; exact if_pos (by omega)
        refine (g_ld rfl rfl rfl (g_gr rfl rfl rfl rfl rfl (g_ld rfl rfl rfl (g_gi rfl rfl rfl rfl rfl (g_dup2 rfl rfl rfl (g_ald rfl rfl rfl ?_ (g_c rfl rfl (g_bin rfl rfl (g_ast rfl rfl rfl ?_ (g_ld rfl rfl rfl (g_gr rfl rfl rfl rfl rfl (g_c rfl rfl (g_ld rfl rfl rfl (g_gi rfl rfl rfl rfl rfl (g_bin rfl rfl (g_ld rfl rfl rfl (g_gr rfl rfl rfl rfl rfl (g_ld rfl rfl rfl (g_gi rfl rfl rfl rfl rfl (g_ald rfl rfl rfl ?_ (g_bin rfl rfl (g_ld rfl rfl rfl (g_c rfl rfl (g_bin rfl rfl (g_ast rfl rfl rfl ?_ (g_ld rfl rfl rfl (g_c rfl rfl (g_pi rfl rfl rfl rfl rfl rfl rfl (g_ld rfl rfl rfl (g_c rfl rfl (g_pi rfl rfl rfl rfl rfl rfl rfl (g_c rfl rfl (g_ri rfl rfl rfl ?_)))))))))))))))))))))))))))))))))
        · exact hin
        · exact hin
        · rw [ui_ne (by decide)]; exact hin
        · rw [ui_ne (by decide), hcl, ui_at, pk_us, h.2.2.2.1, (h.2.2.2.2.2.2.1 (qN q) (Or.inr ⟨rfl, by omega⟩)).2, ← nI_succ, e4]
          exact vp_in_nI (show 4 * qN q + (bM (qB q) (qN q) + 1) < 16 by omega) (by decide)
        · have es : z_ui (z_ui S 4 (S.1 0 4).toNatClampNeg (S.1 4 (S.1 0 4).toNatClampNeg + 1)) 5 (4 * (z_ui S 4 (S.1 0 4).toNatClampNeg (S.1 4 (S.1 0 4).toNatClampNeg + 1)).1 0 4 + (z_ui S 4 (S.1 0 4).toNatClampNeg (S.1 4 (S.1 0 4).toNatClampNeg + 1)).1 4 ((z_ui S 4 (S.1 0 4).toNatClampNeg (S.1 4 (S.1 0 4).toNatClampNeg + 1)).1 0 4).toNatClampNeg).toNatClampNeg (nI j + 1) = z_ui (z_ui S 4 (qN q) (nI (bM (qB q) (qN q) + 1))) 5 (4 * qN q + bM (qB q) (qN q) + 1) (nI (j + 1)) := by
            rw [rM, hcl, ui_ne (show (0 : Nat) ≠ 4 by decide), hcl, ui_at, pk_us, h.2.2.2.1, ← nI_succ, ← nI_succ, e4, nI_clamp (by omega), Nat.add_assoc]
          rw [es]
          have hA : Am [2, 3, 4, 5] [2, 3, 4, 5] S (z_ui (z_ui (z_ui (z_ui S 4 (qN q) (nI (bM (qB q) (qN q) + 1))) 5 (4 * qN q + bM (qB q) (qN q) + 1) (nI (j + 1))) 0 5 1) 0 2 5) := (((Am.rf.ui (by decide) (by decide)).ui (by decide) (by decide)).fd (by decide)).fd (by decide)
          refine gd_yes hA e' rfl ?_
          have upe : ∀ i, i ≠ qN q → upN (bM (qB q)) (qN q) (bM (qB q) (qN q) + 1) i = bM (qB q) i := fun i hi => by unfold upN; rw [if_neg hi]
          have ups : upN (bM (qB q)) (qN q) (bM (qB q) (qN q) + 1) (qN q) = bM (qB q) (qN q) + 1 := by unfold upN; rw [if_pos rfl]
          obtain ⟨h1, h2, h3, h4', h5, h6, h7, h8, h9, h10, h11, h12⟩ := h
          have t5 : (z_ui (z_ui (z_ui (z_ui S 4 (qN q) (nI (bM (qB q) (qN q) + 1))) 5 (4 * qN q + bM (qB q) (qN q) + 1) (nI (j + 1))) 0 5 1) 0 2 5).1 5 = upd (S.1 5) (4 * qN q + bM (qB q) (qN q) + 1) (nI (j + 1)) := by rw [ui_ne (by decide), ui_ne (by decide), ui_at, ui_ne (by decide)]
          refine ⟨qok_step hQ e', ?_, ?_, ?_, fun _ => ?_, fun k hk => ?_, fun k hk => ?_, fun k hk hne => ?_, fun k i hk hi => ?_, fun k hk hlt => ?_, fun z => absurd z (by show ¬ 5 = 3; decide), ?_⟩
          · rw [ui_at, pk_us]; rfl
          · rw [ui_at, pk_un (by decide), ui_at, pk_un (by decide), ui_ne (by decide), ui_ne (by decide)]; exact h3
          · rw [ui_at, pk_un (by decide), ui_at, pk_un (by decide), ui_ne (by decide), ui_ne (by decide)]; exact h4'
          · rw [ui_at, pk_un (by decide), ui_at, pk_us]; rfl
          · rw [ui_ne (by decide), ui_ne (by decide), ui_ne (by decide), ui_ne (by decide)]; exact h6 k hk
          · have hk' : k < qN q ∨ k = qN q := by
              rcases hk with g | g
              · exact Or.inl g
              · exact Or.inr g.1
            have g7 := h7 k (by omega)
            rw [ui_ne (by decide), ui_ne (by decide), ui_ne (by decide), ui_ne (by decide), ui_ne (show (4 : Nat) ≠ 0 by decide), ui_ne (show (4 : Nat) ≠ 0 by decide), ui_ne (show (4 : Nat) ≠ 5 by decide), ui_at]
            refine ⟨?_, ?_⟩
            · have eT : bT (qB (5, (bN (qB q), bP (qB q), upN (bM (qB q)) (qN q) (bM (qB q) (qN q) + 1), fun j => if j = 3 * qN q + bM (qB q) (qN q) then [] else bT (qB q) j), upN (qK q) (3 * qN q + bM (qB q) (qN q)) kd, qN q, 1)) (12 + k) = bT (qB q) (12 + k) := if_neg (by omega)
              rw [g7.1]
              unfold abI
              rw [eT]
            · show _ = nI (upN (bM (qB q)) (qN q) (bM (qB q) (qN q) + 1) k)
              by_cases g : k = qN q
              · rw [g, pk_us, ups]
              · rw [pk_un g, upe k g]; exact g7.2
          · have eT : bT (qB (5, (bN (qB q), bP (qB q), upN (bM (qB q)) (qN q) (bM (qB q) (qN q) + 1), fun j => if j = 3 * qN q + bM (qB q) (qN q) then [] else bT (qB q) j), upN (qK q) (3 * qN q + bM (qB q) (qN q)) kd, qN q, 1)) (12 + k) = bT (qB q) (12 + k) := if_neg (by omega)
            rw [eT] at hne ⊢
            exact ((h8 k hk hne).mono (by rw [t5, pk_un (by omega)])).weak (fun g => absurd g.1 (by show ¬ 5 = 3; decide))
          · have hi : i < upN (bM (qB q)) (qN q) (bM (qB q) (qN q) + 1) k := hi
            have hkm := hQ.2.2.2.2.1 k
            by_cases g : k = qN q ∧ i = bM (qB q) (qN q)
            · obtain ⟨gk, gi⟩ := g
              subst gk
              subst gi
              have eT : bT (qB (5, (bN (qB q), bP (qB q), upN (bM (qB q)) (qN q) (bM (qB q) (qN q) + 1), fun j => if j = 3 * qN q + bM (qB q) (qN q) then [] else bT (qB q) j), upN (qK q) (3 * qN q + bM (qB q) (qN q)) kd, qN q, 1)) (3 * qN q + bM (qB q) (qN q)) = [] := if_pos rfl
              rw [eT]
              refine ⟨j + 1, by rw [t5, pk_us], Nat.le_refl _, fun _ => rfl, fun i hi => absurd hi (Nat.not_lt_zero _), by omega, ?_⟩
              show kix (pg.getD (j + 1 - 1) 0) = some (upN (qK q) (3 * qN q + bM (qB q) (qN q)) kd (3 * qN q + bM (qB q) (qN q)))
              rw [Nat.add_sub_cancel, hj, hx]
              unfold upN
              rw [if_pos rfl]
            · have hi' : i < bM (qB q) k := by
                by_cases gk : k = qN q
                · rw [gk, ups] at hi
                  rw [gk]
                  have : ¬ i = bM (qB q) (qN q) := fun z => g ⟨gk, z⟩
                  omega
                · rw [upe k gk] at hi
                  exact hi
              have hpl : ¬ 3 * k + i = 3 * qN q + bM (qB q) (qN q) := fun z => g (by
                have : k = qN q := by omega
                exact ⟨this, by omega⟩)
              have eT : bT (qB (5, (bN (qB q), bP (qB q), upN (bM (qB q)) (qN q) (bM (qB q) (qN q) + 1), fun j => if j = 3 * qN q + bM (qB q) (qN q) then [] else bT (qB q) j), upN (qK q) (3 * qN q + bM (qB q) (qN q)) kd, qN q, 1)) (3 * k + i) = bT (qB q) (3 * k + i) := if_neg hpl
              have eK : qK (5, (bN (qB q), bP (qB q), upN (bM (qB q)) (qN q) (bM (qB q) (qN q) + 1), fun j => if j = 3 * qN q + bM (qB q) (qN q) then [] else bT (qB q) j), upN (qK q) (3 * qN q + bM (qB q) (qN q)) kd, qN q, 1) (3 * k + i) = qK q (3 * k + i) := by
                show upN (qK q) _ kd (3 * k + i) = _
                unfold upN
                rw [if_neg hpl]
              rw [eT, eK]
              refine ((h9 k i hk hi').mono (by rw [t5, pk_un (by omega)])).weak (fun z => ?_)
              have z2 : k = qN q := z.2.1
              have z3 : i + 1 = upN (bM (qB q)) (qN q) (bM (qB q) (qN q) + 1) k := z.2.2
              rw [z2, ups] at z3
              exact g ⟨z2, by omega⟩
          · have eT : bT (qB (5, (bN (qB q), bP (qB q), upN (bM (qB q)) (qN q) (bM (qB q) (qN q) + 1), fun j => if j = 3 * qN q + bM (qB q) (qN q) then [] else bT (qB q) j), upN (qK q) (3 * qN q + bM (qB q) (qN q)) kd, qN q, 1)) (12 + k) = bT (qB q) (12 + k) := if_neg (by omega)
            rw [eT]
            rcases hlt with g | g
            · exact h10 k hk (Or.inl g)
            · exact absurd g.2 (by show ¬ 5 < 3; decide)
          · show 1 ≤ _
            omega
    · rw [rM] at zc54
      have hM : bM (qB q) (qN q) = 3 := eq_n (b := 3) (Decidable.not_not.mp zc54)
      have e' : stp q c = none := by
        rw [e]
        by_cases g : c = 44
        · rw [if_pos g, if_neg (h44 g)]
        · rw [if_neg g]
          cases hx : kix c with
          | none => rfl
          | some kd => exact if_neg (by omega)
      exact gd_no Am.rf e' rfl
  refine Sp.of dk_M_isMember ok_M_isMember rfl (g_ld rfl rfl rfl (g_c rfl rfl (g_if rfl rfl (fun zc3 => ?_) (fun zc3 => (g_ld rfl rfl rfl (g_gi rfl rfl rfl rfl rfl (g_ld rfl rfl rfl (g_gi rfl rfl rfl rfl rfl (g_c rfl rfl (g_bin rfl rfl (g_if rfl rfl (fun zc16 => ?_) (fun zc16 => (g_ld rfl rfl rfl (g_dup rfl rfl (g_gi rfl rfl rfl rfl rfl (g_c rfl rfl (g_bin rfl rfl (g_pi rfl rfl rfl rfl rfl rfl rfl (g_ld rfl rfl rfl (g_c rfl rfl (g_pi rfl rfl rfl rfl rfl rfl rfl (g_c rfl rfl (g_ri rfl rfl rfl ?_)))))))))))))))))))))))
  · exact go36 (fun g => absurd (by rw [g]; rfl) zc3)
  · rw [h.2.2.2.1, h.2.2.1, show (1 : Int32) = nI 1 from rfl, pk_sub (by omega)] at zc16
    exact go36 (fun _ g => by
      have := le_n zc16
      omega)
  · have c1 : c = 44 := eq_n (b := 44) (Decidable.not_not.mp zc3)
    rw [h.2.2.2.1, h.2.2.1, show (1 : Int32) = nI 1 from rfl, pk_sub (by omega)] at zc16
    have g : qN q + 1 < bN (qB q) := by have := nle_n zc16; omega
    rw [if_pos c1, if_pos g] at e
    rw [h.2.2.2.1, ← nI_succ]
    refine gd_yes ((Am.rf.fd (by decide)).fd (by decide)) e rfl (h.same (qok_step hQ e) (by rw [ui_ne (by decide), ui_ne (by decide)]) (by rw [ui_ne (by decide), ui_ne (by decide)]) (by rw [ui_at, pk_un (by decide), ui_at, pk_un (by decide)]) (by rw [ui_at, pk_us]; rfl) (by rw [ui_at, pk_un (by decide), ui_at, pk_us]) ⟨by decide, by decide⟩ (fun k hk => ?_) (fun k hk hlt => h.2.2.2.2.2.2.2.2.2.1 k hk (by omega)))
    rw [ui_ne (by decide), ui_ne (by decide), ui_ne (by decide), ui_ne (by decide)]
    exact h.2.2.2.2.2.2.1 k (by omega)
end
