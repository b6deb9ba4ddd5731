/-! the reference's reader: bodies, above, arguments -/
section
variable {l : Launch} {D : va_G} {ad : Nat → Nat} {cA : ClassId} {x y z w : Int32} {S S' S0 : zS} {m : Mt} {B : Bk} {pg t : List Nat} {n p k r c j s o : Nat} {q q' : Ps} {Q : Nat → Prop}
theorem s_isBegun (h : RmX S pg q j) (h0 : qH q = 1) (hc : c ≤ 126) : Sp (l, wM, D, ad, cA) 0 m_M_isBegun [.ref 0, .int y, .int (nI c)] S (gdPost S pg q c j) := by
  have hQ := h.1
  have h4 := hQ.2.1
  have hN : qN q < bN (qB q) := hQ.2.2.2.2.2.1 (by omega)
  have e : stp q c = st1 q c := stp_1 h0
  unfold st1 at e
  have hin : vp_in (S.1 0 4) 4 := by rw [h.2.2.2.1]; exact vp_in_nI (show qN q < 4 by omega) (by decide)
  have hcl : (S.1 0 4).toNatClampNeg = qN q := by rw [h.2.2.2.1, nI_clamp (by omega)]
  have h10 := h.2.2.2.2.2.2.2.2.2.1
  have hM := hQ.2.2.2.2.2.2.2.2.2.2.2 (by omega)
  have hab : abI (qB q) (qN q) = -1 := by unfold abI; rw [h10 (qN q) (by omega) (Or.inr ⟨rfl, by omega⟩)]
  have key : ∀ (g : Nat) (T : zS), (g = 2 ∨ g = 4) → stp q c = some (g, qB q, qK q, qN q, qO q) → T.1 = (z_ui (z_ui (z_ui S 3 (qN q) (-1)) 4 (qN q) 0) 0 2 (nI g)).1 → RmX T pg (g, qB q, qK q, qN q, qO q) (j + 1) := by
    intro g T hg hst hT
    refine h.same (qok_step hQ hst) (by rw [hT, ui_ne (by decide), ui_ne (by decide), ui_ne (by decide)]) (by rw [hT, ui_ne (by decide), ui_ne (by decide), ui_ne (by decide)]) (by rw [hT, ui_at, pk_un (by decide), ui_ne (by decide), ui_ne (by decide)]) (by rw [hT, ui_at, pk_us]) (by rw [hT, ui_at, pk_un (by decide), ui_ne (by decide), ui_ne (by decide)]; exact h.2.2.2.1) ⟨by omega, by omega⟩ (fun k hk => ?_) (fun k hk hlt => h10 k hk (by
      rcases hlt with z | z
      · exact Or.inl z
      · exact Or.inr ⟨z.1, by omega⟩))
    rw [hT, ui_ne (by decide), ui_ne (by decide), ui_at, ui_ne (by decide), ui_at, ui_ne (by decide)]
    by_cases z : k = qN q
    · rw [z, pk_us, pk_us, hab, hM]; exact ⟨rfl, rfl⟩
    · rw [pk_un z, pk_un z]
      exact h.2.2.2.2.2.2.1 k (by omega)
  have hA : ∀ g : Int32, Am [2, 3, 4, 5] [2, 3, 4, 5] S (z_ui (z_ui (z_ui S 3 (qN q) (-1)) 4 (qN q) 0) 0 2 g) := fun g => ((Am.rf.ui (by decide) (by decide)).ui (by decide) (by decide)).fd (by decide)
  refine Sp.of dk_M_isBegun ok_M_isBegun rfl (g_ld rfl rfl rfl (g_gr rfl rfl rfl rfl rfl (g_ld rfl rfl rfl (g_gi rfl rfl rfl rfl rfl (g_c rfl rfl (g_ast rfl rfl rfl ?_ (g_ld rfl rfl rfl (g_gr rfl rfl rfl rfl rfl (g_ld rfl rfl rfl (g_gi rfl rfl rfl rfl rfl (g_c rfl rfl (g_ast rfl rfl rfl ?_ ?_))))))))))))
  · exact hin
  · rw [ui_ne (by decide)]; exact hin
  · rw [hcl, ui_ne (show (0 : Nat) ≠ 3 by decide), hcl]
    refine (g_ld rfl rfl rfl (g_ld rfl rfl rfl (g_c rfl rfl (g_if rfl rfl (fun zc24 => (g_c rfl rfl (g_pi rfl rfl rfl rfl rfl rfl rfl (g_ld rfl rfl rfl (g_c rfl rfl (g_if rfl rfl (fun zc38 => (g_c rfl rfl (g_go rfl (g_ri rfl rfl rfl ?_)))) (fun zc38 => (g_ld rfl rfl rfl (g_c rfl rfl (g_if rfl rfl (fun zc44 => (g_c rfl rfl (g_ri rfl rfl rfl ?_))) (fun zc44 => (g_c rfl rfl (g_go rfl (g_ri rfl rfl rfl ?_)))))))))))))) (fun zc24 => (g_c rfl rfl (g_go rfl (g_pi rfl rfl rfl rfl rfl rfl rfl (g_ld rfl rfl rfl (g_c rfl rfl (g_if rfl rfl (fun zc38 => (g_c rfl rfl (g_go rfl (g_ri rfl rfl rfl ?_)))) (fun zc38 => (g_ld rfl rfl rfl (g_c rfl rfl (g_if rfl rfl (fun zc44 => (g_c rfl rfl (g_ri rfl rfl rfl ?_))) (fun zc44 => (g_c rfl rfl (g_go rfl (g_ri rfl rfl rfl ?_)))))))))))))))))))
    · exact absurd zc38 zc24
    · have c1 : ¬ c = 45 := fun g => zc24 (by rw [g]; rfl)
      have c2 : ¬ c = 60 := fun g => zc44 (by rw [g]; rfl)
      rw [if_neg c2, if_neg c1] at e
      exact gd_no (hA 2) e rfl
    · have c1 : ¬ c = 45 := fun g => zc24 (by rw [g]; rfl)
      have c2 : c = 60 := eq_n (b := 60) (Decidable.not_not.mp zc44)
      rw [if_pos c2] at e
      exact gd_yes (hA 2) e rfl (key 2 _ (Or.inl rfl) e rfl)
    · have c1 : c = 45 := eq_n (b := 45) (Decidable.not_not.mp zc24)
      rw [if_neg (by omega), if_pos c1] at e
      exact gd_yes (hA 4) e rfl (key 4 _ (Or.inr rfl) e rfl)
    · exact absurd (Decidable.not_not.mp zc24) zc38
    · exact absurd (Decidable.not_not.mp zc24) zc38
theorem s_isAboveSign (h : RmX S pg q j) (h0 : qH q = 2) (hc : c ≤ 126) (hj : pg.getD j 0 = c) (hj90 : j < 90) : Sp (l, wM, D, ad, cA) 1 m_M_isAboveSign [.ref 0, .int (nI j), .int (nI c)] S (gdPost S pg q c j) := by
  have hQ := h.1
  have h4 := hQ.2.1
  have hN : qN q < bN (qB q) := hQ.2.2.2.2.2.1 (by omega)
  have e : stp q c = st2 q c := stp_2 h0
  unfold st2 at e
  have e47 : 48 + S.1 0 4 - 1 = nI (47 + qN q) := by
    rw [h.2.2.2.1, show (48 : Int32) = nI 48 from rfl, nI_add, show 48 + qN q = (47 + qN q) + 1 by omega, nI_succ, Int32.add_sub_cancel]
  have hcl : (S.1 0 4).toNatClampNeg = qN q := by rw [h.2.2.2.1, nI_clamp (by omega)]
  refine Sp.of dk_M_isAboveSign ok_M_isAboveSign rfl (g_ld rfl rfl rfl (g_un rfl rfl (g_c rfl rfl (g_c rfl rfl (g_ld rfl rfl rfl (g_gi rfl rfl rfl rfl rfl (g_bin rfl rfl (g_c rfl rfl (g_bin rfl rfl (g_un rfl rfl (g_cs rfl (s_inE (lo := 48) (hi := 48 + S.1 0 4 - 1) rfl rfl) (by omega) rfl rfl rfl rfl rfl rfl (z_k1 (g_if rfl rfl (fun zc18 => ?_) (fun zc18 => (g_c rfl rfl (g_ri rfl rfl rfl ?_))))))))))))))))
  · rw [e47] at zc18
    have g := b2_n.mp zc18
    have g1 := le_n (a := 48) g.1
    have g2 := le_n g.2
    rw [if_pos ⟨g1, by omega⟩] at e
    have hP2 := hQ.2.2.1 (c - 48)
    have rP : S.1 2 (c - 48) = nI (bP (qB q) (c - 48)) := h.2.2.2.2.2.1 (c - 48) (by omega)
    have b4 : 4 * S.1 0 4 = nI (4 * qN q) := by rw [h.2.2.2.1, show (4 : Int32) = nI 4 from rfl, pk_mul]
    have key : ∀ (T : zS), T.1 = (z_ui (z_ui (z_ui (z_ui S 3 (qN q) (nI (c - 48))) 5 (4 * qN q) (nI j)) 0 5 (nI (bP (qB q) (c - 48)))) 0 2 (nI (if 0 + bP (qB q) (c - 48) = 0 then 4 else 3))).1 → T.2 = S.2 → gdPost S pg q c j (.int 1) T := by
      intro T hT hT2
      have hA : Am [2, 3, 4, 5] [2, 3, 4, 5] S T := by
        have : Am [2, 3, 4, 5] [2, 3, 4, 5] S (z_ui (z_ui (z_ui (z_ui S 3 (qN q) (nI (c - 48))) 5 (4 * qN q) (nI j)) 0 5 (nI (bP (qB q) (c - 48)))) 0 2 (nI (if 0 + bP (qB q) (c - 48) = 0 then 4 else 3))) := (((Am.rf.ui (by decide) (by decide)).ui (by decide) (by decide)).fd (by decide)).fd (by decide)
        unfold Am at this ⊢
        rw [hT, hT2]
        exact ⟨this.1, this.2.1, rfl⟩
      refine gd_yes hA e rfl ?_
      obtain ⟨h1, h2, h3, h4', h5, h6, h7, h8, h9, h10, h11, h12⟩ := h
      have eH : qH (stS (3, upT (qB q) (12 + qN q) [], qK q, qN q, 1) 3 (12 + qN q) 0 (c - 48)) = if 0 + bP (qB q) (c - 48) = 0 then 4 else 3 := rfl
      have eT2 : ∀ j, bT (qB (stS (3, upT (qB q) (12 + qN q) [], qK q, qN q, 1) 3 (12 + qN q) 0 (c - 48))) j = if j = 12 + qN q then [c - 48] else bT (qB q) j := fun j => by
        show (if j = 12 + qN q then (if 12 + qN q = 12 + qN q then [] else bT (qB q) (12 + qN q)) ++ [c - 48] else (if j = 12 + qN q then [] else bT (qB q) j)) = _
        rw [if_pos rfl]
        by_cases e : j = 12 + qN q
        · rw [if_pos e, if_pos e]; rfl
        · rw [if_neg e, if_neg e, if_neg e]
      have hge : 3 ≤ qH (stS (3, upT (qB q) (12 + qN q) [], qK q, qN q, 1) 3 (12 + qN q) 0 (c - 48)) := by rw [eH]; split <;> omega
      have hne5 : qH (stS (3, upT (qB q) (12 + qN q) [], qK q, qN q, 1) 3 (12 + qN q) 0 (c - 48)) ≠ 5 := by rw [eH]; split <;> omega
      have t5 : T.1 5 = upd (S.1 5) (4 * qN q) (nI j) := by rw [hT, ui_ne (by decide), ui_ne (by decide), ui_at, ui_ne (by decide)]
      refine ⟨qok_step hQ e, ?_, ?_, ?_, fun _ => ?_, fun k hk => ?_, fun k hk => ?_, fun k hk hne => ?_, fun k i hk hi => ?_, fun k hk hlt => ?_, fun _ => ?_, ?_⟩
      · rw [hT, ui_at, pk_us, eH]
      · rw [hT, ui_at, pk_un (by decide), ui_at, pk_un (by decide), ui_ne (by decide), ui_ne (by decide)]; exact h3
      · rw [hT, ui_at, pk_un (by decide), ui_at, pk_un (by decide), ui_ne (by decide), ui_ne (by decide)]; exact h4'
      · rw [hT, ui_at, pk_un (by decide), ui_at, pk_us]
        show _ = nI (0 + bP (qB q) (c - 48))
        rw [Nat.zero_add]
      · rw [hT, ui_ne (by decide), ui_ne (by decide), ui_ne (by decide), ui_ne (by decide)]; exact h6 k hk
      · have hk' : k < qN q ∨ k = qN q := by
          rcases hk with z | z
          · exact Or.inl z
          · exact Or.inr z.1
        have t3 : T.1 3 = upd (S.1 3) (qN q) (nI (c - 48)) := by rw [hT, ui_ne (by decide), ui_ne (by decide), ui_ne (by decide), ui_at]
        have t4 : T.1 4 = S.1 4 := by rw [hT, ui_ne (by decide), ui_ne (by decide), ui_ne (by decide), ui_ne (by decide)]
        have g7 := h7 k (by omega)
        rw [t3, t4]
        refine ⟨?_, g7.2⟩
        unfold abI
        rw [eT2]
        by_cases z : k = qN q
        · rw [z, pk_us, if_pos rfl]
        · rw [pk_un z, if_neg (by omega)]
          exact g7.1
      · rw [eT2] at hne ⊢
        by_cases z : k = qN q
        · rw [z, if_pos rfl]
          refine ⟨j, by rw [t5, pk_us], by simp, fun _ => by simp, fun i hi => ?_, trivial⟩
          have : i = 0 := by simpa using hi
          subst this
          rw [Nat.add_zero, hj]
          show sgc c = enc (c - 48)
          unfold sgc
          rw [if_neg (by omega), if_neg (by omega), if_pos g1, enc_lt (by omega)]
        · rw [if_neg (by omega)] at hne ⊢
          exact ((h8 k hk hne).mono (by rw [t5, pk_un (by omega)])).weak (fun g => z g.2)
      · have hi : i < bM (qB q) k := hi
        have := hQ.2.2.2.2.1 k
        rw [eT2, if_neg (by omega)]
        exact ((h9 k i hk hi).mono (by rw [t5, pk_un (by omega)])).weak (fun g => hne5 g.1)
      · rw [eT2]
        rcases hlt with z | z
        · have z : qN q < k := z
          rw [if_neg (by omega)]
          exact h10 k hk (Or.inl z)
        · have := z.2; omega
      · rw [eT2]
        show (if 12 + qN q = 12 + qN q then [c - 48] else _) ≠ []
        rw [if_pos rfl]
        simp
      · show 0 + bP (qB q) (c - 48) ≤ _
        omega
    refine (g_ld rfl rfl rfl (g_gr rfl rfl rfl rfl rfl (g_ld rfl rfl rfl (g_gi rfl rfl rfl rfl rfl (g_ld rfl rfl rfl (g_c rfl rfl (g_bin rfl rfl (g_ast rfl rfl rfl ?_ (g_ld rfl rfl rfl (g_gr rfl rfl rfl rfl rfl (g_c rfl rfl (g_ld rfl rfl rfl (g_gi rfl rfl rfl rfl rfl (g_bin rfl rfl (g_ld rfl rfl rfl (g_ast rfl rfl rfl ?_ (g_ld rfl rfl rfl (g_ld rfl rfl rfl (g_gr rfl rfl rfl rfl rfl (g_ld rfl rfl rfl (g_c rfl rfl (g_bin rfl rfl (g_ald rfl rfl rfl ?_ (g_pi rfl rfl rfl rfl rfl rfl rfl ?_))))))))))))))))))))))))
    · rw [h.2.2.2.1]; exact vp_in_nI (show qN q < 4 by omega) (by decide)
    · rw [ui_ne (by decide), b4]; exact vp_in_nI (show 4 * qN q < 16 by omega) (by decide)
    · rw [sub48 g1]; exact vp_in_nI (show c - 48 < 4 by omega) (by decide)
    · rw [sub48 g1, nI_clamp (show c - 48 < 2 ^ 31 by omega), ui_ne (show (2 : Nat) ≠ 5 by decide), ui_ne (show (2 : Nat) ≠ 3 by decide), rP, ui_ne (show (0 : Nat) ≠ 3 by decide), hcl, b4, nI_clamp (show 4 * qN q < 2 ^ 31 by omega)]
      refine (g_ld rfl rfl rfl (g_ld rfl rfl rfl (g_gi rfl rfl rfl rfl rfl (g_if rfl rfl (fun zc66 => (g_c rfl rfl (g_pi rfl rfl rfl rfl rfl rfl rfl (g_c rfl rfl (g_ri rfl rfl rfl ?_))))) (fun zc66 => (g_c rfl rfl (g_go rfl (g_pi rfl rfl rfl rfl rfl rfl rfl (g_c rfl rfl (g_ri rfl rfl rfl ?_))))))))))
      · rw [ui_at, pk_us] at zc66
        have hz : ¬ 0 + bP (qB q) (c - 48) = 0 := fun z => zc66 (by rw [← Nat.zero_add (bP _ _), z]; rfl)
        refine key _ ?_ rfl
        rw [if_neg hz]
        rfl
      · rw [ui_at, pk_us] at zc66
        have hz : 0 + bP (qB q) (c - 48) = 0 := by rw [Nat.zero_add]; exact eq_n (b := 0) (Decidable.not_not.mp zc66)
        refine key _ ?_ rfl
        rw [if_pos hz]
        rfl
  · rw [e47] at zc18
    have g := b2_0.mp (Decidable.not_not.mp zc18)
    have g2 : ¬ (48 ≤ c ∧ c < 48 + qN q) := fun z => g ⟨nI_le (a := 48) z.1 (by omega), nI_le (by omega) (by omega)⟩
    rw [if_neg g2] at e
    exact gd_no Am.rf e rfl
end
