/-! the reference: hide -/
theorem dv3 : ∀ k, k < 12 → nI k / 3 = nI (k / 3) ∧ nI k - nI k / 3 * 3 = nI (k % 3) := by decide
def HdX (S0 S : zS) : Prop := Am [11, 14, 15, 16, 21] [22, 24, 25] S0 S ∧ ∀ i, i < 16 → S.1 21 i = S0.1 11 i
section
variable {l : Launch} {D : va_G} {ad : Nat → Nat} {cA : ClassId} {x y z w : Int32} {S S' S0 : zS} {m : Mt} {B : Bk} {V : Nat → Nat} {n p k r c j s o b i N q : Nat} {t : Int32}
theorem s_isMemberOfB (hB : BkM S (mB m)) (hm : MOk m) : Sp (l, wM, D, ad, cA) 2 m_M_isMemberOf [.ref 0, .int x, .int y] S (fun v S' => v = .int (b2 (0 ≤ y ∧ y < gM m x)) ∧ S' = S) := by
  have h4 := hm.2.2.1.1
  refine Sp.of dk_M_isMemberOf ok_M_isMemberOf rfl (g_ld rfl rfl rfl (g_ld rfl rfl rfl (g_cv rfl (s_isClassM hB.1 h4) (by omega) rfl rfl rfl rfl rfl rfl rfl rfl rfl (z_k1 (g_if rfl rfl (fun zc5 => (g_c rfl rfl (g_ri rfl rfl rfl ?_))) (fun zc5 => (g_ld rfl rfl rfl (g_un rfl rfl (g_c rfl rfl (g_ld rfl rfl rfl (g_gr rfl rfl rfl rfl rfl (g_ld rfl rfl rfl (g_ald rfl rfl rfl ?_ (g_c rfl rfl (g_bin rfl rfl (g_un rfl rfl (g_cs rfl (s_inE (lo := 0) (hi := S.1 8 x.toNatClampNeg - 1) rfl rfl) (by omega) rfl rfl rfl rfl rfl rfl (z_k1 (g_if rfl rfl (fun zc23 => (g_c rfl rfl (g_ri rfl rfl rfl ?_))) (fun zc23 => (g_c rfl rfl (g_go rfl (g_ri rfl rfl rfl ?_)))))))))))))))))))))))
  · have a := b2_0.mp zc5
    refine v_int (b2_f ?_).symm rfl
    rw [gM_out hm a]
    exact fun q => absurd (Int32.lt_of_le_of_lt q.1 q.2) (by decide)
  · have a := b2_n.mp zc5
    obtain ⟨c, hc, e1, -⟩ := gM_in hm a
    rw [e1]
    exact vp_in_nI (show c < 4 by omega) (by decide)
  · have a := b2_n.mp zc5
    obtain ⟨c, hc, e1, e2⟩ := gM_in hm a
    have h3 := hm.2.2.1.2.2.2.1 c
    rw [e1, nI_clamp (by omega), hB.2.2.1 c hc] at zc23
    have b := b2_0.mp zc23
    rw [le_pred (by omega)] at b
    rw [e2]
    exact v_int (b2_f b).symm rfl
  · have a := b2_n.mp zc5
    obtain ⟨c, hc, e1, e2⟩ := gM_in hm a
    have h3 := hm.2.2.1.2.2.2.1 c
    rw [e1, nI_clamp (by omega), hB.2.2.1 c hc] at zc23
    have b := b2_n.mp zc23
    rw [le_pred (by omega)] at b
    rw [e2]
    exact v_int (b2_t b).symm rfl
theorem HdX.bk (h : HdX S0 S) (hB : BkM S0 B) : BkM S B := hB.am h.1
theorem gM_c (hm : MOk m) (hc : c < 4) : gM m (nI c) = nI (bM (mB m) c) := by unfold gM; rw [if_pos (in4 hc), nI_clamp (by omega)]
theorem lp_can (h : InvM S0 m) (hm : MOk m) (hX : HdX S0 S) (hs : s < 4096) : ∀ (k i : Nat) (w3 : Option Value), i + k = 12 → (∀ j, j < i → s / 2 ^ j % 2 = 1 → j % 3 < bM (mB m) (j / 3) ∧ mK m j ≠ 3) → Go (l, wM, D, ad, cA) 3 m_M_canHide (fun v S' => ((canH m s ∧ v = .int 1) ∨ (¬ canH m s ∧ v = .int 0)) ∧ S' = S) 2 [some (.ref 0), some (.int (nI s)), some (.int (nI i)), w3] [] S
  | 0, i, w3, e, hok => by
    have e8 : i = 12 := by omega
    subst e8
    refine (g_ld rfl rfl rfl (g_c rfl rfl (g_if rfl rfl (fun zc5 => (g_c rfl rfl (g_ri rfl rfl rfl ?_))) (fun zc5 => ?_))))
    · exact ⟨Or.inl ⟨hok, rfl⟩, rfl⟩
    · exact absurd (by decide) zc5
  | k + 1, i, w3, e, hok => by
    have hi : i < 12 := by omega
    obtain ⟨q1, q2⟩ := dv3 i hi
    have h3 := hm.2.2.1.2.2.2.1 (i / 3)
    have h5 : mK m i < 5 := hm.2.2.2.1.1 i
    have hbit := hid_bit hs hi
    have hix : 4 * (nI i / 3) + (nI i - nI i / 3 * 3) = nI (4 * (i / 3) + i % 3) := by rw [q2, q1, e4]
    -- the end of a turn, when 'is' is known
    have tail : ∀ is : Int32, (is = 0 ∨ is = 1) → (is = 1 ↔ (i % 3 < bM (mB m) (i / 3) ∧ mK m i ≠ 3)) → Go (l, wM, D, ad, cA) 3 m_M_canHide (fun v S' => ((canH m s ∧ v = .int 1) ∨ (¬ canH m s ∧ v = .int 0)) ∧ S' = S) 45 [some (.ref 0), some (.int (nI s)), some (.int (nI i)), some (.int is)] [] S := by
      intro is h01 his
      have rcc : (s / 2 ^ i % 2 = 1 → i % 3 < bM (mB m) (i / 3) ∧ mK m i ≠ 3) → Go (l, wM, D, ad, cA) 3 m_M_canHide (fun v S' => ((canH m s ∧ v = .int 1) ∨ (¬ canH m s ∧ v = .int 0)) ∧ S' = S) 2 [some (.ref 0), some (.int (nI s)), some (.int (nI i + 1)), some (.int is)] [] S := by
        intro hthis
        have := lp_can h hm hX hs k (i + 1) (some (.int is)) (by omega) (fun j hj hb => by
          by_cases ej : j = i
          · subst ej; exact hthis hb
          · exact hok j (by omega) hb)
        rw [nI_succ i] at this
        exact this
      refine (g_ld rfl rfl rfl (g_ld rfl rfl rfl (g_bin rfl rfl (g_c rfl rfl (g_bin rfl rfl (g_c rfl rfl (g_if rfl rfl (fun zc51 => (g_inc rfl rfl rfl rfl (g_go rfl ?_))) (fun zc51 => (g_ld rfl rfl rfl (g_if rfl rfl (fun zc55 => (g_inc rfl rfl rfl rfl (g_go rfl ?_))) (fun zc55 => (g_c rfl rfl (g_ri rfl rfl rfl ?_)))))))))))))
      · rw [hbit] at zc51
        exact rcc (fun hb => absurd (by rw [hb]; rfl) zc51)
      · rcases h01 with g | g
        · exact absurd g zc55
        · exact rcc (fun _ => his.mp g)
      · rw [hbit] at zc51
        have hb : s / 2 ^ i % 2 = 1 := eq_n (b := 1) (Decidable.not_not.mp zc51) (by have := Nat.mod_lt (s / 2 ^ i) (show 0 < 2 by decide); omega)
        have g0 := Decidable.not_not.mp zc55
        refine ⟨Or.inr ⟨fun hc => ?_, rfl⟩, rfl⟩
        have := his.mpr (hc i hi hb)
        rw [g0] at this
        exact absurd this (by decide)
    refine (g_ld rfl rfl rfl (g_c rfl rfl (g_if rfl rfl (fun zc5 => (g_c rfl rfl (g_ri rfl rfl rfl ?_))) (fun zc5 => (g_ld rfl rfl rfl (g_ld rfl rfl rfl (g_c rfl rfl (g_idiv rfl (by decide) (g_ld rfl rfl rfl (g_c rfl rfl (g_irem rfl (by decide) ?_)))))))))))
    · have := le_n (a := 12) zc5
      omega
    · rw [q2, q1]
      refine (g_cv rfl (s_isMemberOfB (hX.bk h.2.2.1) hm) (by omega) rfl rfl rfl rfl rfl rfl rfl rfl rfl (z_k1 ?_))
      rw [gM_c hm (c := i / 3) (by omega)]
      refine (g_if rfl rfl (fun zc18 => (g_c rfl rfl (g_st rfl rfl rfl rfl rfl ?_))) (fun zc18 => (g_ld rfl rfl rfl (g_gr rfl rfl rfl rfl rfl (g_c rfl rfl (g_ld rfl rfl rfl (g_c rfl rfl (g_idiv rfl (by decide) (g_bin rfl rfl (g_ld rfl rfl rfl (g_c rfl rfl (g_irem rfl (by decide) (g_bin rfl rfl (g_ald rfl rfl rfl ?_ (g_c rfl rfl (g_if rfl rfl (fun zc36 => (g_c rfl rfl (g_st rfl rfl rfl rfl rfl ?_))) (fun zc36 => (g_c rfl rfl (g_go rfl (g_st rfl rfl rfl rfl rfl ?_))))))))))))))))))))
      · have g := b2_0.mp zc18
        refine tail 0 (Or.inl rfl) ⟨fun z => absurd z (by decide), fun z => absurd ⟨(in_n (n := 4) (show i % 3 < 4 by omega) (by omega)).1, nI_lt z.1 (by omega)⟩ g⟩
      · rw [hix]; exact vp_in_nI (show 4 * (i / 3) + i % 3 < 16 by omega) (by decide)
      · have g := b2_n.mp zc18
        have hlt : i % 3 < bM (mB m) (i / 3) := lt_n g.2
        rw [hix, nI_clamp (by omega), hX.2 _ (by omega), h.2.2.2.1.1 (i / 3) (i % 3) (by
          apply Nat.lt_of_not_le
          intro q
          have := (hm.2.2.1.2.2.1 _ q).2
          omega) hlt, show 3 * (i / 3) + i % 3 = i by omega] at zc36
        refine tail 0 (Or.inl rfl) ⟨fun z => absurd z (by decide), fun z => absurd (eq_n (b := 3) (show nI (mK m i) = nI 3 from zc36)) z.2⟩
      · have g := b2_n.mp zc18
        have hlt : i % 3 < bM (mB m) (i / 3) := lt_n g.2
        rw [hix, nI_clamp (by omega), hX.2 _ (by omega), h.2.2.2.1.1 (i / 3) (i % 3) (by
          apply Nat.lt_of_not_le
          intro q
          have := (hm.2.2.1.2.2.1 _ q).2
          omega) hlt, show 3 * (i / 3) + i % 3 = i by omega] at zc36
        refine tail 1 (Or.inr rfl) ⟨fun _ => ⟨hlt, fun e => zc36 (by show nI (mK m i) = 3; rw [e]; rfl)⟩, fun _ => rfl⟩
theorem s_canHide (h : InvM S0 m) (hm : MOk m) (hX : HdX S0 S) (hs : s < 4096) : Sp (l, wM, D, ad, cA) 3 m_M_canHide [.ref 0, .int (nI s)] S (fun v S' => ((canH m s ∧ v = .int 1) ∨ (¬ canH m s ∧ v = .int 0)) ∧ S' = S) := by
  refine Sp.of dk_M_canHide ok_M_canHide rfl (g_c rfl rfl (g_st rfl rfl rfl rfl rfl ?_))
  exact lp_can h hm hX hs 12 0 none (by omega) (fun j hj => absurd hj (Nat.not_lt_zero _))
theorem lp_fb (h : InvM S0 m) (hm : MOk m) (hs : s < 4096) {x2 : Int32} {Post : Value → zS → Prop} (K : ∀ T w4 w5, HdX S0 T → KdM T 11 (mB m) (kdh (mK m) s) → Go (l, wM, D, ad, cA) 5 m_M_isFreeBy Post 57 [some (.ref 0), some (.int (nI s)), some (.int x2), some (.int t), w4, w5] [] T) : ∀ (k i : Nat) (S : zS) (w5 : Option Value), i + k = 12 → HdX S0 S → (∀ j, j < i → S.1 11 (4 * (j / 3) + j % 3) = (if s / 2 ^ j % 2 = 1 then 3 else S0.1 11 (4 * (j / 3) + j % 3))) → Go (l, wM, D, ad, cA) 5 m_M_isFreeBy Post 3 [some (.ref 0), some (.int (nI s)), some (.int x2), some (.int t), some (.int (nI i)), w5] [] S
  | 0, i, S, w5, e, hX, hok => by
    have e8 : i = 12 := by omega
    subst e8
    refine (g_ld rfl rfl rfl (g_c rfl rfl (g_if rfl rfl (fun zc7 => ?_) (fun zc7 => ?_))))
    · refine K S _ _ hX (fun c j hc hj => ?_)
      have h3 := hm.2.2.1.2.2.2.1 c
      have h4 := hm.2.2.1.1
      have := hok (3 * c + j) (by omega)
      rw [show (3 * c + j) / 3 = c by omega, show (3 * c + j) % 3 = j by omega] at this
      rw [this, h.2.2.2.1.1 c j hc hj]
      unfold kdh
      by_cases g : s / 2 ^ (3 * c + j) % 2 = 1
      · rw [if_pos g, if_pos g]; rfl
      · rw [if_neg g, if_neg g]; rfl
    · exact absurd (by decide) zc7
  | k + 1, i, S, w5, e, hX, hok => by
    have hi : i < 12 := by omega
    obtain ⟨q1, q2⟩ := dv3 i hi
    have hbit := hid_bit hs hi
    have hix : 4 * (nI i / 3) + (nI i - nI i / 3 * 3) = nI (4 * (i / 3) + i % 3) := by rw [q2, q1, e4]
    have hin : vp_in (nI (4 * (i / 3) + i % 3)) 16 := vp_in_nI (show 4 * (i / 3) + i % 3 < 16 by omega) (by decide)
    have hnext : ∀ v : Int32, v = (if s / 2 ^ i % 2 = 1 then 3 else S0.1 11 (4 * (i / 3) + i % 3)) → Go (l, wM, D, ad, cA) 5 m_M_isFreeBy Post 3 [some (.ref 0), some (.int (nI s)), some (.int x2), some (.int t), some (.int (nI i + 1)), some (.int (nI (4 * (i / 3) + i % 3)))] [] (z_ui S 11 (4 * (i / 3) + i % 3) v) := by
      intro v hv
      have := lp_fb h hm hs K k (i + 1) (z_ui S 11 (4 * (i / 3) + i % 3) v) (some (.int (nI (4 * (i / 3) + i % 3)))) (by omega) ⟨hX.1.ui (by decide) (by decide), by rw [ui_ne (by decide)]; exact hX.2⟩ (fun j hj => by
        rw [ui_at]
        by_cases ej : j = i
        · subst ej; rw [pk_us]; exact hv
        · rw [pk_un (by omega)]; exact hok j (by omega))
      rw [nI_succ i] at this
      exact this
    refine (g_ld rfl rfl rfl (g_c rfl rfl (g_if rfl rfl (fun zc7 => ?_) (fun zc7 => (g_c rfl rfl (g_ld rfl rfl rfl (g_c rfl rfl (g_idiv rfl (by decide) (g_bin rfl rfl (g_ld rfl rfl rfl (g_c rfl rfl (g_irem rfl (by decide) (g_bin rfl rfl (g_st rfl rfl rfl rfl rfl ?_))))))))))))))
    · have := le_n (a := 12) zc7
      omega
    · rw [hix]
      refine (g_ld rfl rfl rfl (g_gr rfl rfl rfl rfl rfl (g_ld rfl rfl rfl (g_ld rfl rfl rfl (g_ld rfl rfl rfl (g_bin rfl rfl (g_c rfl rfl (g_bin rfl rfl (g_c rfl rfl (g_if rfl rfl (fun zc36 => (g_ld rfl rfl rfl (g_gr rfl rfl rfl rfl rfl (g_ld rfl rfl rfl (g_ald rfl rfl rfl ?_ (g_ast rfl rfl rfl ?_ (g_inc rfl rfl rfl rfl (g_go rfl ?_)))))))) (fun zc36 => (g_c rfl rfl (g_go rfl (g_ast rfl rfl rfl ?_ (g_inc rfl rfl rfl rfl (g_go rfl ?_))))))))))))))))
      · exact hin
      · exact hin
      · rw [hbit] at zc36
        rw [nI_clamp (by omega)]
        refine hnext _ ?_
        rw [if_neg (fun g => zc36 (by rw [g]; rfl)), hX.2 _ (by omega)]
      · exact hin
      · rw [hbit] at zc36
        rw [nI_clamp (by omega)]
        refine hnext _ ?_
        rw [if_pos (eq_n (b := 1) (Decidable.not_not.mp zc36) (by have := Nat.mod_lt (s / 2 ^ i) (show 0 < 2 by decide); omega))]
theorem s_isFreeBy (h : InvM S0 m) (hm : MOk m) (hX : HdX S0 S) (hs : s < 4096) (hq : q < 8) : Sp (l, wM, D, ad, cA) 5 m_M_isFreeBy [.ref 0, .int (nI s), .int (nI q), .int t] S (fun v S' => ((frH m q t s ∧ v = .int 1) ∨ (¬ frH m q t s ∧ v = .int 0)) ∧ HdX S0 S') := by
  refine Sp.of dk_M_isFreeBy ok_M_isFreeBy rfl (g_c rfl rfl (g_st rfl rfl rfl rfl rfl ?_))
  refine lp_fb h hm hs (fun T w4 w5 hX hK => ?_) 12 0 S none (by omega) hX (fun j hj => absurd hj (Nat.not_lt_zero _))
  have hk5 : ∀ p, kdh (mK m) s p < 5 := fun p => by
    rcases kdh_or (mK m) s p with g | g
    · rw [g]; exact hm.2.2.2.1.1 p
    · rw [g]; decide
  refine (g_ld rfl rfl rfl (g_cv rfl (s_layWays (hX.bk h.2.2.1) hm.2.2.1 hK hk5) (by omega) rfl rfl rfl rfl rfl rfl rfl rfl rfl (fun zv58 zS58 zh58 => ?_)))
  obtain ⟨rfl, hA, hw, -⟩ := zh58
  have hX2 : HdX S0 zS58 := ⟨hX.1.tr (hA.mono (by simp +contextual) (by simp)), by rw [hA.1 21 (by decide) (by decide)]; exact hX.2⟩
  refine (g_ld rfl rfl rfl (g_gr rfl rfl rfl rfl rfl (g_ld rfl rfl rfl (g_ald rfl rfl rfl ?_ (g_ld rfl rfl rfl (g_bin rfl rfl (g_if rfl rfl (fun zc69 => (g_c rfl rfl (g_ri rfl rfl rfl ?_))) (fun zc69 => (g_c rfl rfl (g_go rfl (g_ri rfl rfl rfl ?_)))))))))))
  · exact vp_in_nI hq (by decide)
  · rw [nI_clamp (by omega), hw q hq] at zc69
    exact ⟨Or.inr ⟨zc69, rfl⟩, hX2⟩
  · rw [nI_clamp (by omega), hw q hq] at zc69
    exact ⟨Or.inl ⟨Classical.not_not.mp zc69, rfl⟩, hX2⟩
end
