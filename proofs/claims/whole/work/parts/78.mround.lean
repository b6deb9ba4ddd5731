/-! the reference: layRound -/
def lrPost (S0 : zS) (F : Nat → Nat) : Value → zS → Prop := fun v S' => v = .null ∧ Am [15, 16] [24, 25] S0 S' ∧ ∀ j, j < 8 → S'.1 15 j = nI (F j)
theorem Fw_out {B : Bk} {kd V : Nat → Nat} (hW : WfB B) {j : Nat} (hj : bN B ≤ j / 2) : Fw B kd V j = 0 := by
  unfold Fw
  by_cases h8 : j < 8
  · rw [if_pos h8]
    have hM := (hW.2.2.1 (j / 2) hj).2
    have hT : bT B (12 + j / 2) = [] := by
      rcases hW.2.2.2.2.2 (j / 2) (by omega) with e | e
      · exact e
      · have := e.1; omega
    have : tc B V kd (j / 2) = (0, 0) := by
      unfold tc
      rw [hM, tcm, hT]
      rfl
    rw [this]
    split <;> rfl
  · rw [if_neg h8]
section
variable {l : Launch} {D : va_G} {ad : Nat → Nat} {cA : ClassId} {x y z w : Int32} {S S' S0 : zS} {m : Mt} {B : Bk} {V kd : Nat → Nat} {n p k r q t : Nat}
theorem lp_lrI (hB : BkM S0 B) (hW : WfB B) (hK : KdM S0 11 B kd) (hk5 : ∀ p, kd p < 5) (hV : ∀ j, V j < 4) (h14 : ∀ j, j < 8 → S0.1 14 j = nI (V j)) {c : Nat} (hc : c < bN B) {Post : Value → zS → Prop} : ∀ (k j : Nat) (S : zS), j + k = bM B c → Am [15, 16] [24, 25] S0 S → (∀ S', Am [15, 16] [24, 25] S0 S' → S'.1 15 = S.1 15 → Go (l, wM, D, ad, cA) 3 m_M_layRound Post 112 [some (.ref 0), some (.int (nI c)), some (.int (nI (tc B V kd c).1)), some (.int (nI (tc B V kd c).2)), some (.int (nI (bM B c)))] [] S') → Go (l, wM, D, ad, cA) 3 m_M_layRound Post 50 [some (.ref 0), some (.int (nI c)), some (.int (nI (tcm B V kd c j).1)), some (.int (nI (tcm B V kd c j).2)), some (.int (nI j))] [] S
  | 0, j, S, e, hA, K => by
    have h4 := hW.1
    have h3 := hW.2.2.2.1 c
    have e8 : S.1 8 (nI c).toNatClampNeg = nI (bM B c) := by rw [nI_clamp (by omega), hA.1 8 (by decide) (by decide)]; exact hB.2.2.1 c hc
    have ej : j = bM B c := by omega
    subst ej
    refine (g_ld rfl rfl rfl (g_ld rfl rfl rfl (g_gr rfl rfl rfl rfl rfl (g_ld rfl rfl rfl (g_ald rfl rfl rfl ?_ (g_if rfl rfl (fun zc58 => ?_) (fun zc58 => ?_)))))))
    · exact vp_in_nI (show c < 4 by omega) (by decide)
    · exact K S hA rfl
    · rw [e8] at zc58
      exact absurd (Int32.le_refl _) zc58
  | k + 1, j, S, e, hA, K => by
    have h4 := hW.1
    have h3 := hW.2.2.2.1 c
    have hj : j < bM B c := by omega
    have e8 : S.1 8 (nI c).toNatClampNeg = nI (bM B c) := by rw [nI_clamp (by omega), hA.1 8 (by decide) (by decide)]; exact hB.2.2.1 c hc
    have hB2 : BkM S B := hB.ag (hA.2.1 _ (by decide)) (hA.1 _ (by decide) (by decide)) (hA.1 _ (by decide) (by decide)) (hA.1 _ (by decide) (by decide)) (hA.1 _ (by decide) (by decide)) (hA.1 _ (by decide) (by decide))
    have h142 : ∀ j, j < 8 → S.1 14 j = nI (V j) := by rw [hA.1 14 (by decide) (by decide)]; exact h14
    have hty := (hW.2.2.2.2.1 c j (by omega) (by omega)).1 hj
    obtain ⟨st, hst⟩ := hB2.2.2.2.2.2 c j hc hj
    have ek : S.1 11 (nI (4 * c + j)).toNatClampNeg = nI (kd (3 * c + j)) := by rw [nI_clamp (by omega), hA.1 11 (by decide) (by decide)]; exact hK c j hc hj
    have ht := tcm_lt (B := B) (V := V) (kd := kd) hV c j
    have hu := tl_lt (P := bP B) hV (bT B (3 * c + j)) [kwn (kd (3 * c + j))] (by simpa using kwn_lt _)
    refine (g_ld rfl rfl rfl (g_ld rfl rfl rfl (g_gr rfl rfl rfl rfl rfl (g_ld rfl rfl rfl (g_ald rfl rfl rfl ?_ (g_if rfl rfl (fun zc58 => ?_) (fun zc58 => ?_)))))))
    · exact vp_in_nI (show c < 4 by omega) (by decide)
    · rw [e8] at zc58
      have := le_n zc58
      omega
    · refine (g_ld rfl rfl rfl (g_ld rfl rfl rfl (g_gr rfl rfl rfl rfl rfl (g_c rfl rfl (g_ld rfl rfl rfl (g_bin rfl rfl (g_ld rfl rfl rfl (g_bin rfl rfl (g_c rfl rfl (g_bin rfl rfl (g_ald rfl rfl rfl ?_ (g_ld rfl rfl rfl (g_gr rfl rfl rfl rfl rfl (g_c rfl rfl (g_ld rfl rfl rfl (g_bin rfl rfl (g_ld rfl rfl rfl (g_bin rfl rfl (g_ald rfl rfl rfl ?_ ?_)))))))))))))))))))
      · rw [e4, ← nI_succ]; exact vp_in_nI (show 4 * c + j + 1 < 16 by omega) (by decide)
      · rw [e4]; exact vp_in_nI (show 4 * c + j < 16 by omega) (by decide)
      · rw [e4, ek, ← nI_succ, nI_clamp (show 4 * c + j + 1 < 2 ^ 31 by omega)]
        refine (g_cs rfl (s_waysBy (hk5 _)) (by omega) rfl rfl rfl rfl rfl rfl (z_k1 ?_))
        refine (g_cv rfl (s_layType hB2 hW hV h142 hty hst.2.2 hst.2.1 (kwn_lt _) hst.1 rfl) (by omega) rfl rfl rfl rfl rfl rfl rfl rfl rfl (fun zv89 zS89 zh89 => ?_))
        obtain ⟨rfl, hA3, g1, g2⟩ := zh89
        refine (g_ld rfl rfl rfl (g_ld rfl rfl rfl (g_gi rfl rfl rfl rfl rfl (g_bin rfl rfl (g_st rfl rfl rfl rfl rfl (g_ld rfl rfl rfl (g_ld rfl rfl rfl (g_gi rfl rfl rfl rfl rfl (g_bin rfl rfl (g_st rfl rfl rfl rfl rfl (g_inc rfl rfl rfl rfl (g_go rfl ?_))))))))))))
        rw [g1, g2, or_n _ ht.1 _ hu.1, or_n _ ht.2 _ hu.2]
        have := lp_lrI hB hW hK hk5 hV h14 hc k (j + 1) zS89 (by omega) (hA.tr (hA3.mono (by simp) (by simp))) (fun S' hA' h15 => K S' hA' (by rw [h15]; exact hA3.1 15 (by decide) (by decide)))
        rw [nI_succ j] at this
        exact this
theorem lp_lr (hB : BkM S0 B) (hW : WfB B) (hK : KdM S0 11 B kd) (hk5 : ∀ p, kd p < 5) (hV : ∀ j, V j < 4) (h14 : ∀ j, j < 8 → S0.1 14 j = nI (V j)) (h15 : ∀ j, j < 8 → bN B ≤ j / 2 → S0.1 15 j = 0) : ∀ (k c : Nat) (S : zS) (w2 w3 w4 : Option Value), c + k = bN B → Am [15, 16] [24, 25] S0 S → (∀ j, j < 8 → j / 2 < c → S.1 15 j = nI (Fw B kd V j)) → (∀ j, j < 8 → c ≤ j / 2 → S.1 15 j = S0.1 15 j) → Go (l, wM, D, ad, cA) 3 m_M_layRound (lrPost S0 (Fw B kd V)) 2 [some (.ref 0), some (.int (nI c)), w2, w3, w4] [] S
  | 0, c, S, w2, w3, w4, e, hA, hlo, hhi => by
    have h4 := hW.1
    refine (g_ld rfl rfl rfl (g_ld rfl rfl rfl (g_gi rfl rfl rfl rfl rfl (g_if rfl rfl (fun zc7 => (g_rv rfl rfl ?_)) (fun zc7 => ?_)))))
    · refine ⟨rfl, hA, fun j hj => ?_⟩
      by_cases g : j / 2 < c
      · exact hlo j hj g
      · rw [hhi j hj (by omega), h15 j hj (by omega), Fw_out hW (by omega)]; rfl
    · rw [hA.2.1 10 (by decide), hB.1] at zc7
      have := nle_n zc7
      omega
  | k + 1, c, S, w2, w3, w4, e, hA, hlo, hhi => by
    have h4 := hW.1
    have hc : c < bN B := by omega
    have hB2 : BkM S B := hB.ag (hA.2.1 _ (by decide)) (hA.1 _ (by decide) (by decide)) (hA.1 _ (by decide) (by decide)) (hA.1 _ (by decide) (by decide)) (hA.1 _ (by decide) (by decide)) (hA.1 _ (by decide) (by decide))
    have h142 : ∀ j, j < 8 → S.1 14 j = nI (V j) := by rw [hA.1 14 (by decide) (by decide)]; exact h14
    have e7 : S.1 7 (nI c).toNatClampNeg = abI B c := by rw [nI_clamp (by omega)]; exact hB2.2.2.2.1 c hc
    have fin : ∀ (T : zS) , Am [15, 16] [24, 25] S0 T → T.1 15 = S.1 15 → Go (l, wM, D, ad, cA) 3 m_M_layRound (lrPost S0 (Fw B kd V)) 50 [some (.ref 0), some (.int (nI c)), some (.int (nI (tcm B V kd c 0).1)), some (.int (nI (tcm B V kd c 0).2)), some (.int (nI 0))] [] T := by
      intro T hAT hT15
      refine lp_lrI hB hW hK hk5 hV h14 hc (bM B c) 0 T (by omega) hAT (fun S' hA' hS15 => ?_)
      refine (g_ld rfl rfl rfl (g_gr rfl rfl rfl rfl rfl (g_c rfl rfl (g_ld rfl rfl rfl (g_bin rfl rfl (g_ld rfl rfl rfl (g_ast rfl rfl rfl ?_ (g_ld rfl rfl rfl (g_gr rfl rfl rfl rfl rfl (g_c rfl rfl (g_ld rfl rfl rfl (g_bin rfl rfl (g_c rfl rfl (g_bin rfl rfl (g_ld rfl rfl rfl (g_ast rfl rfl rfl ?_ (g_inc rfl rfl rfl rfl (g_go rfl ?_))))))))))))))))))
      · rw [show (2 : Int32) = nI 2 from rfl, pk_mul]; exact vp_in_nI (show 2 * c < 8 by omega) (by decide)
      · rw [show (2 : Int32) = nI 2 from rfl, pk_mul, ← nI_succ]; exact vp_in_nI (show 2 * c + 1 < 8 by omega) (by decide)
      · rw [show (2 : Int32) = nI 2 from rfl, pk_mul, ← nI_succ (2 * c), nI_clamp (by omega), nI_clamp (by omega)]
        have := lp_lr hB hW hK hk5 hV h14 h15 k (c + 1) (z_ui (z_ui S' 15 (2 * c) (nI (tc B V kd c).1)) 15 (2 * c + 1) (nI (tc B V kd c).2)) (some (.int (nI (tc B V kd c).1))) (some (.int (nI (tc B V kd c).2))) (some (.int (nI (bM B c)))) (by omega) ((hA'.ui (by decide) (by decide)).ui (by decide) (by decide)) (fun j hj hlt => by
          rw [ui_at, ui_at]
          by_cases g1 : j = 2 * c + 1
          · rw [g1, pk_us]
            unfold Fw
            rw [if_pos (by omega), if_neg (by omega), show (2 * c + 1) / 2 = c by omega]
          · rw [pk_un g1]
            by_cases g2 : j = 2 * c
            · rw [g2, pk_us]
              unfold Fw
              rw [if_pos (by omega), if_pos (by omega), show (2 * c) / 2 = c by omega]
            · rw [pk_un g2, hS15, hT15]
              exact hlo j hj (by omega)) (fun j hj hge => by
          rw [ui_at, ui_at, pk_un (by omega), pk_un (by omega), hS15, hT15]
          exact hhi j hj (by omega))
        rw [nI_succ c] at this
        exact this
    refine (g_ld rfl rfl rfl (g_ld rfl rfl rfl (g_gi rfl rfl rfl rfl rfl (g_if rfl rfl (fun zc7 => (g_rv rfl rfl ?_)) (fun zc7 => (g_c rfl rfl (g_st rfl rfl rfl rfl rfl (g_c rfl rfl (g_st rfl rfl rfl rfl rfl (g_ld rfl rfl rfl (g_gr rfl rfl rfl rfl rfl (g_ld rfl rfl rfl (g_ald rfl rfl rfl ?_ (g_c rfl rfl (g_if rfl rfl (fun zc21 => ?_) (fun zc21 => ?_))))))))))))))))
    · rw [hA.2.1 10 (by decide), hB.1] at zc7
      have := le_n zc7
      omega
    · exact vp_in_nI (show c < 4 by omega) (by decide)
    · rw [e7] at zc21
      rcases ab_lt hW (c := c) (by omega) with ⟨e1, e2⟩ | ⟨b, bs, e1, hb, -, e2, e3⟩
      · refine (g_c rfl rfl (g_st rfl rfl rfl rfl rfl ?_))
        have ht : tcm B V kd c 0 = (0, 0) := by rw [tcm, e1]; rfl
        have := fin S hA rfl
        rw [ht] at this
        exact this
      · rw [e2] at zc21
        exact absurd zc21 e3
    · rw [e7] at zc21
      rcases ab_lt hW (c := c) (by omega) with ⟨e1, e2⟩ | ⟨b, bs, e1, hb, -, e2, e3⟩
      · exact absurd e2 zc21
      · have hne : bT B (12 + c) ≠ [] := by rw [e1]; simp
        have hty : TyOk B c (bT B (12 + c)) := by
          rcases hW.2.2.2.2.2 c (by omega) with g | g
          · exact absurd g hne
          · exact g.2.1
        obtain ⟨st, hst⟩ := hB2.2.2.2.2.1 c hc hne
        have hst0 : S.1 9 (4 * nI c).toNatClampNeg = nI st := by
          rw [show (4 : Int32) = nI 4 from rfl, pk_mul, nI_clamp (by omega)]
          exact hst.1
        refine (g_ld rfl rfl rfl (g_ld rfl rfl rfl (g_gr rfl rfl rfl rfl rfl (g_c rfl rfl (g_ld rfl rfl rfl (g_bin rfl rfl (g_ald rfl rfl rfl ?_ (g_c rfl rfl (g_cv rfl (s_layType hB2 hW hV h142 hty hst.2.2 hst.2.1 (w := 1) (by decide) hst0 rfl) (by omega) rfl rfl rfl rfl rfl rfl rfl rfl rfl (fun zv34 zS34 zh34 => ?_))))))))))
        · rw [show (4 : Int32) = nI 4 from rfl, pk_mul]; exact vp_in_nI (show 4 * c < 16 by omega) (by decide)
        · obtain ⟨rfl, hA3, g1, g2⟩ := zh34
          refine (g_ld rfl rfl rfl (g_gi rfl rfl rfl rfl rfl (g_st rfl rfl rfl rfl rfl (g_ld rfl rfl rfl (g_gi rfl rfl rfl rfl rfl (g_st rfl rfl rfl rfl rfl (g_c rfl rfl (g_st rfl rfl rfl rfl rfl ?_))))))))
          rw [g1, g2]
          exact fin zS34 (hA.tr (hA3.mono (by simp) (by simp))) (hA3.1 15 (by decide) (by decide))
theorem s_layRound (hB : BkM S B) (hW : WfB B) (hK : KdM S 11 B kd) (hk5 : ∀ p, kd p < 5) (hV : ∀ j, V j < 4) (h14 : ∀ j, j < 8 → S.1 14 j = nI (V j)) (h15 : ∀ j, j < 8 → bN B ≤ j / 2 → S.1 15 j = 0) : Sp (l, wM, D, ad, cA) 3 m_M_layRound [.ref 0] S (lrPost S (Fw B kd V)) := by
  refine Sp.of dk_M_layRound ok_M_layRound rfl (g_c rfl rfl (g_st rfl rfl rfl rfl rfl ?_))
  exact lp_lr hB hW hK hk5 hV h14 h15 (bN B) 0 S none none none (by omega) Am.rf (fun j hj h => absurd h (by omega)) (fun j hj h => rfl)
end
