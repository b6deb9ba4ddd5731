/-! the reference: hideOf, hide -/
theorem ne_m1 {s : Nat} (hs : s < 4096) : nI s ≠ -1 := fun e => by
  have := congrArg Int32.toInt e
  rw [show (nI s).toInt = (s : Int) from nI_toInt (by omega)] at this
  have e1 : (-1 : Int32).toInt = -1 := by decide
  omega
section
variable {l : Launch} {D : va_G} {ad : Nat → Nat} {cA : ClassId} {x y z w : Int32} {S S' S0 : zS} {m : Mt} {B : Bk} {V : Nat → Nat} {n p k r c j s o b i N q mny : Nat} {t : Int32}
theorem on_le (s : Nat) : ∀ n, onN s n ≤ n
  | 0 => Nat.le_refl _
  | n + 1 => by rw [onN]; have := on_le s n; have := Nat.mod_lt (s / 2 ^ n) (show 0 < 2 by decide); omega
theorem lp_h2 (h : InvM S0 m) (hm : MOk m) (hq : q < 8) (hmny : mny < 4) (hlow : ∀ s, s < 4096 → onN s 12 < mny → ¬ (canH m s ∧ frH m q t s)) {Post : Value → zS → Prop}
    (Kf : ∀ (r : Int32) (T : zS) (w4 w5 w6 : Option Value), LexM (fun s => canH m s ∧ frH m q t s) r → HdX S0 T → Go (l, wM, D, ad, cA) 6 m_M_hideOf Post 104 [some (.ref 0), some (.int (nI q)), some (.int t), some (.int r), w4, w5, w6] [] T)
    (Kn : (∀ s, s < 4096 → onN s 12 < mny + 1 → ¬ (canH m s ∧ frH m q t s)) → ∀ (T : zS) (w5 w6 : Option Value), HdX S0 T → Go (l, wM, D, ad, cA) 6 m_M_hideOf Post 16 [some (.ref 0), some (.int (nI q)), some (.int t), some (.int (-1)), some (.int (nI (mny + 1))), w5, w6] [] T) : ∀ (k s : Nat) (S : zS) (w6 : Option Value), s + k = 4096 → HdX S0 S → (∀ s', s' < s → onN s' 12 = mny → ¬ (canH m s' ∧ frH m q t s')) → Go (l, wM, D, ad, cA) 6 m_M_hideOf Post 30 [some (.ref 0), some (.int (nI q)), some (.int t), some (.int (-1)), some (.int (nI mny)), some (.int (nI s)), w6] [] S
  | 0, s, S, w6, e, hX, hno => by
    have e8 : s = 4096 := by omega
    subst e8
    refine (g_ld rfl rfl rfl (g_c rfl rfl (g_if rfl rfl (fun zc35 => ?_) (fun zc35 => ?_))))
    · refine (g_inc rfl rfl rfl rfl (g_go rfl ?_))
      rw [← nI_succ]
      exact Kn (fun s hs hlt => by
        by_cases g : onN s 12 < mny
        · exact hlow s hs g
        · exact hno s hs (by omega)) S _ _ hX
    · exact absurd (by decide) zc35
  | k + 1, s, S, w6, e, hX, hno => by
    have hs : s < 4096 := by omega
    -- not this one
    have nx' : ∀ (T : zS) (w6 : Option Value), HdX S0 T → (onN s 12 = mny → ¬ (canH m s ∧ frH m q t s)) → Go (l, wM, D, ad, cA) 6 m_M_hideOf Post 30 [some (.ref 0), some (.int (nI q)), some (.int t), some (.int (-1)), some (.int (nI mny)), some (.int (nI s + 1)), w6] [] T := by
      intro T w6 hT hthis
      have := lp_h2 h hm hq hmny hlow Kf Kn k (s + 1) T w6 (by omega) hT (fun s' hs' hc => by
        by_cases es : s' = s
        · subst es; exact hthis hc
        · exact hno s' (by omega) hc)
      rw [nI_succ] at this
      exact this
    refine (g_ld rfl rfl rfl (g_c rfl rfl (g_if rfl rfl (fun zc35 => ?_) (fun zc35 => (g_ld rfl rfl rfl (g_c rfl rfl (g_if rfl rfl (fun zc40 => ?_) (fun zc40 => ?_))))))))
    · have := le_n (a := 4096) zc35
      omega
    · exact absurd rfl zc40
    · refine (g_ld rfl rfl rfl (g_cs rfl (s_ones (s := s) hs rfl) (by omega) rfl rfl rfl rfl rfl rfl (z_k1 ?_)))
      rw [bc_eq hs]
      refine (g_ld rfl rfl rfl (g_if rfl rfl (fun zc50 => ?_) (fun zc50 => ?_)))
      · have hne : ¬ onN s 12 = mny := fun z => zc50 (by rw [z])
        refine (g_c rfl rfl (g_st rfl rfl rfl rfl rfl (g_ld rfl rfl rfl (g_if rfl rfl (fun zc82 => (g_c rfl rfl (g_st rfl rfl rfl rfl rfl (g_inc rfl rfl rfl rfl (g_go rfl ?_))))) (fun zc82 => (g_ld rfl rfl rfl (g_go rfl (g_st rfl rfl rfl rfl rfl (g_inc rfl rfl rfl rfl (g_go rfl ?_))))))))))
        · exact nx' S _ hX (fun z => absurd z hne)
        · exact absurd rfl zc82
      · have hon := on_le s 12
        have hc : onN s 12 = mny := eq_n (Decidable.not_not.mp zc50)
        refine (g_ld rfl rfl rfl (g_ld rfl rfl rfl (g_cv rfl (s_canHide h hm hX hs) (by omega) rfl rfl rfl rfl rfl rfl rfl rfl rfl (fun zv56 zS56 zh56 => ?_))))
        obtain ⟨hcase, rfl⟩ := zh56
        rcases hcase with ⟨hcan, rfl⟩ | ⟨hcan, rfl⟩
        · refine (g_if rfl rfl (fun zc59 => ?_) (fun zc59 => ?_))
          · exact absurd zc59 (by decide)
          · refine (g_ld rfl rfl rfl (g_ld rfl rfl rfl (g_ld rfl rfl rfl (g_ld rfl rfl rfl (g_cv rfl (s_isFreeBy h hm hX hs hq) (by omega) rfl rfl rfl rfl rfl rfl rfl rfl rfl (fun zv67 zS67 zh67 => ?_))))))
            obtain ⟨hcase, hX2⟩ := zh67
            rcases hcase with ⟨hfr, rfl⟩ | ⟨hfr, rfl⟩
            · have hlex : LexM (fun s => canH m s ∧ frH m q t s) (nI s) := Or.inr ⟨s, hs, rfl, by omega, ⟨hcan, hfr⟩, fun s' hs' hq' => by
                have g1 : ¬ onN s' 12 < mny := fun g => hlow s' hs' g hq'
                refine ⟨by omega, fun g => ?_⟩
                apply Nat.le_of_not_lt
                intro g2
                exact hno s' g2 (by omega) hq'⟩
              have go98 : ∀ (x5 : Int32) (w6 : Option Value), Go (l, wM, D, ad, cA) 6 m_M_hideOf Post 98 [some (.ref 0), some (.int (nI q)), some (.int t), some (.int (nI s)), some (.int (nI mny)), some (.int x5), w6] [] zS67 := by
                intro x5 w6
                refine (g_inc rfl rfl rfl rfl (g_go rfl ?_))
                refine (g_ld rfl rfl rfl (g_c rfl rfl (g_if rfl rfl (fun zc19 => ?_) (fun zc19 => ?_))))
                · exact Kf _ _ _ _ _ hlex hX2
                · refine (g_ld rfl rfl rfl (g_c rfl rfl (g_if rfl rfl (fun zc24 => ?_) (fun zc24 => ?_))))
                  · exact Kf _ _ _ _ _ hlex hX2
                  · exact absurd (Decidable.not_not.mp zc24) (ne_m1 hs)
              refine (g_if rfl rfl (fun zc70 => ?_) (fun zc70 => (g_c rfl rfl (g_go rfl (g_st rfl rfl rfl rfl rfl ?_)))))
              · exact absurd zc70 (by decide)
              · refine (g_ld rfl rfl rfl (g_if rfl rfl (fun zc82 => (g_c rfl rfl (g_st rfl rfl rfl rfl rfl (g_inc rfl rfl rfl rfl (g_go rfl ?_))))) (fun zc82 => (g_ld rfl rfl rfl (g_go rfl (g_st rfl rfl rfl rfl rfl (g_inc rfl rfl rfl rfl (g_go rfl ?_))))))))
                · exact absurd zc82 (by decide)
                · refine (g_ld rfl rfl rfl (g_c rfl rfl (g_if rfl rfl (fun zc35 => ?_) (fun zc35 => ?_))))
                  · exact go98 _ _
                  · refine (g_ld rfl rfl rfl (g_c rfl rfl (g_if rfl rfl (fun zc40 => ?_) (fun zc40 => ?_))))
                    · exact go98 _ _
                    · exact absurd (Decidable.not_not.mp zc40) (ne_m1 hs)
            · refine (g_if rfl rfl (fun zc70 => ?_) (fun zc70 => ?_))
              · refine (g_c rfl rfl (g_st rfl rfl rfl rfl rfl (g_ld rfl rfl rfl (g_if rfl rfl (fun zc82 => (g_c rfl rfl (g_st rfl rfl rfl rfl rfl (g_inc rfl rfl rfl rfl (g_go rfl ?_))))) (fun zc82 => (g_ld rfl rfl rfl (g_go rfl (g_st rfl rfl rfl rfl rfl (g_inc rfl rfl rfl rfl (g_go rfl ?_))))))))))
                · exact nx' zS67 _ hX2 (fun _ z => hfr z.2)
                · exact absurd rfl zc82
              · exact absurd rfl zc70
        · refine (g_if rfl rfl (fun zc59 => ?_) (fun zc59 => ?_))
          · refine (g_c rfl rfl (g_st rfl rfl rfl rfl rfl (g_ld rfl rfl rfl (g_if rfl rfl (fun zc82 => (g_c rfl rfl (g_st rfl rfl rfl rfl rfl (g_inc rfl rfl rfl rfl (g_go rfl ?_))))) (fun zc82 => (g_ld rfl rfl rfl (g_go rfl (g_st rfl rfl rfl rfl rfl (g_inc rfl rfl rfl rfl (g_go rfl ?_))))))))))
            · exact nx' _ _ hX (fun _ z => hcan z.1)
            · exact absurd rfl zc82
          · exact absurd rfl zc59
theorem lp_h1 (h : InvM S0 m) (hm : MOk m) (hq : q < 8) {Post : Value → zS → Prop}
    (Kf : ∀ (r : Int32) (T : zS) (w4 w5 w6 : Option Value), LexM (fun s => canH m s ∧ frH m q t s) r → HdX S0 T → Go (l, wM, D, ad, cA) 6 m_M_hideOf Post 104 [some (.ref 0), some (.int (nI q)), some (.int t), some (.int r), w4, w5, w6] [] T) : ∀ (k mny : Nat) (S : zS) (w5 w6 : Option Value), mny + k = 4 → HdX S0 S → (∀ s, s < 4096 → onN s 12 < mny → ¬ (canH m s ∧ frH m q t s)) → Go (l, wM, D, ad, cA) 6 m_M_hideOf Post 16 [some (.ref 0), some (.int (nI q)), some (.int t), some (.int (-1)), some (.int (nI mny)), w5, w6] [] S
  | 0, mny, S, w5, w6, e, hX, hlow => by
    have e8 : mny = 4 := by omega
    subst e8
    refine (g_ld rfl rfl rfl (g_c rfl rfl (g_if rfl rfl (fun zc19 => ?_) (fun zc19 => ?_))))
    · exact Kf _ _ _ _ _ (Or.inl ⟨rfl, fun s hs h3 => hlow s hs (by omega)⟩) hX
    · exact absurd (by decide) zc19
  | k + 1, mny, S, w5, w6, e, hX, hlow => by
    refine (g_ld rfl rfl rfl (g_c rfl rfl (g_if rfl rfl (fun zc19 => ?_) (fun zc19 => (g_ld rfl rfl rfl (g_c rfl rfl (g_if rfl rfl (fun zc24 => ?_) (fun zc24 => (g_c rfl rfl (g_st rfl rfl rfl rfl rfl ?_))))))))))
    · have := le_n (a := 4) zc19
      omega
    · exact absurd rfl zc24
    · exact lp_h2 h hm hq (by omega) hlow Kf (fun hn T w5 w6 hT => lp_h1 h hm hq Kf k (mny + 1) T w5 w6 (by omega) hT hn) 4096 0 S w6 (by omega) hX (fun s hs => absurd hs (Nat.not_lt_zero _))
theorem s_hideOf (h : InvM S m) (hm : MOk m) (hq : q < 8) : Sp (l, wM, D, ad, cA) 6 m_M_hideOf [.ref 0, .int (nI q), .int t] S (fun v S' => ∃ r, v = .int r ∧ LexM (fun s => canH m s ∧ frH m q t s) r ∧ InvM S' m) := by
  refine Sp.of dk_M_hideOf ok_M_hideOf rfl (g_ld rfl rfl rfl (g_gr rfl rfl rfl rfl rfl (g_ld rfl rfl rfl (g_gr rfl rfl rfl rfl rfl (g_cs rfl (s_copyM (N := 16) rfl rfl rfl rfl (by decide) (by decide)) (by omega) rfl rfl rfl rfl rfl rfl (fun zv8 zS8 zh8 => ?_))))))
  obtain ⟨rfl, rfl⟩ := zh8
  refine (g_c rfl rfl (g_st rfl rfl rfl rfl rfl (g_c rfl rfl (g_st rfl rfl rfl rfl rfl ?_))))
  refine lp_h1 h hm hq (fun r T w4 w5 w6 hlex hX => ?_) 4 0 _ none none (by omega) ⟨Am.rf.uf (by decide) (by decide), fun i hi => by rw [uf_at, cpyF_at hi]⟩ (fun s hs hlt => absurd hlt (Nat.not_lt_zero _))
  refine (g_ld rfl rfl rfl (g_gr rfl rfl rfl rfl rfl (g_ld rfl rfl rfl (g_gr rfl rfl rfl rfl rfl (g_cs rfl (s_copyM (N := 16) rfl rfl rfl rfl (by decide) (by decide)) (by omega) rfl rfl rfl rfl rfl rfl (fun zv112 zS112 zh112 => ?_))))))
  obtain ⟨rfl, rfl⟩ := zh112
  have k11 : ∀ i, i < 16 → (z_uf T 11 (cpyF (T.1 21) (T.1 11) 16)).1 11 i = S.1 11 i := fun i hi => by rw [uf_at, cpyF_at hi]; exact hX.2 i hi
  have hA1 : Am [11, 14, 15, 16, 21] [22, 24, 25] S (z_uf T 11 (cpyF (T.1 21) (T.1 11) 16)) := hX.1.uf (by decide) (by decide)
  have hB2 : BkM (z_uf T 11 (cpyF (T.1 21) (T.1 11) 16)) (mB m) := h.2.2.1.am hA1
  have hK2 : KdM (z_uf T 11 (cpyF (T.1 21) (T.1 11) 16)) 11 (mB m) (mK m) := fun c j hc hj => by
    have h3 := hm.2.2.1.2.2.2.1 c
    have h4 := hm.2.2.1.1
    rw [k11 _ (by omega)]
    exact h.2.2.2.1.1 c j hc hj
  refine (g_ld rfl rfl rfl (g_cv rfl (s_layWays hB2 hm.2.2.1 hK2 hm.2.2.2.1.1) (by omega) rfl rfl rfl rfl rfl rfl rfl rfl rfl (fun zv116 zS116 zh116 => ?_)))
  obtain ⟨rfl, hA2, hw, hr⟩ := zh116
  refine (g_ld rfl rfl rfl (g_ri rfl rfl rfl ?_))
  have hA3 : Am [11, 14, 15, 16, 21] [22, 24, 25] S zS116 := hA1.tr (hA2.mono (by simp +contextual) (by simp))
  refine ⟨r, rfl, hlex, ?_⟩
  obtain ⟨h1, h2, h3, h4, h5, h6, h7, h8, h9⟩ := h
  refine ⟨by rw [hA3.2.1 1 (by decide)]; exact h1, by rw [hA3.1 1 (by decide) (by decide)]; exact h2, h3.am hA3, ⟨?_, ?_, ?_, ?_⟩, hw, hr, ?_, by rw [hA3.2.1 11 (by decide)]; exact h8, by rw [hA3.2.1 32 (by decide)]; exact h9⟩
  · unfold KdM
    rw [hA2.1 11 (by decide) (by decide)]
    exact hK2
  · rw [hA3.1 12 (by decide) (by decide), hA3.1 13 (by decide) (by decide)]
    exact h4.2.1
  · rw [hA3.2.1 34 (by decide)]
    exact h4.2.2.1
  · rw [hA3.1 22 (by decide) (by decide)]
    exact h4.2.2.2
  · rw [hA3.2.1 37 (by decide)]
    cases hI : mI m with
    | none => rw [hI] at h7; exact h7
    | some k =>
      rw [hI] at h7
      exact ⟨h7.1, h7.2.ag (hA3.1 _ (by decide) (by decide)) (hA3.1 _ (by decide) (by decide)) (hA3.1 _ (by decide) (by decide)) (hA3.1 _ (by decide) (by decide)) (hA3.2.1 _ (by decide))⟩
theorem did_invM (h : InvM S m) : InvM (z_ui S 0 32 (nI (mH m) + 1)) (m_did m) := by
  obtain ⟨h1, h2, h3, h4, h5, h6, h7, h8, h9⟩ := h
  have hA : Am [] [32] S (z_ui S 0 32 (nI (mH m) + 1)) := Am.rf.fd (by decide)
  refine ⟨by rw [hA.2.1 1 (by decide)]; exact h1, by rw [hA.1 1 (by decide) (by decide)]; exact h2, h3.am hA, h4.ag (hA.1 _ (by decide) (by decide)) (hA.1 _ (by decide) (by decide)) (hA.1 _ (by decide) (by decide)) (hA.1 _ (by decide) (by decide)) (hA.2.1 _ (by decide)), by rw [hA.1 14 (by decide) (by decide)]; exact h5, by rw [hA.2.1 22 (by decide)]; exact h6, ?_, by rw [hA.2.1 11 (by decide)]; exact h8, by rw [ui_at, pk_us, ← nI_succ]; rfl⟩
  show match mI m with
  | none => (z_ui S 0 32 (nI (mH m) + 1)).1 0 37 = -1 ∨ ∃ r, r < mR m ∧ (z_ui S 0 32 (nI (mH m) + 1)).1 0 37 = nI r
  | some k => (z_ui S 0 32 (nI (mH m) + 1)).1 0 37 = nI (mR m) ∧ KpM (z_ui S 0 32 (nI (mH m) + 1)) (mB m) 23 24 25 26 ((z_ui S 0 32 (nI (mH m) + 1)).1 0 38) k
  rw [hA.2.1 37 (by decide)]
  cases hI : mI m with
  | none => rw [hI] at h7; exact h7
  | some k =>
    rw [hI] at h7
    exact ⟨h7.1, h7.2.ag (hA.1 _ (by decide) (by decide)) (hA.1 _ (by decide) (by decide)) (hA.1 _ (by decide) (by decide)) (hA.1 _ (by decide) (by decide)) (hA.2.1 _ (by decide))⟩
end
