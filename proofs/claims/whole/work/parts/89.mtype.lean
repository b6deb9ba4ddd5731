/-! the reference: type -/
theorem clT_0 {B : Bk} (h : bN B = 0) : ∀ t : List Nat, clT B t 1 = false
  | [] => rfl
  | c :: t => by rw [clT, h, if_neg (by omega)]
section
variable {l : Launch} {D : va_G} {ad : Nat → Nat} {cA : ClassId} {x y z w : Int32} {S S' S0 : zS} {m : Mt} {B : Bk} {pg t : List Nat} {n p k r c j s o : Nat}
theorem lp_typed (h : InvM S m) (hm : MOk m) (hn : 0 < bN (mB m)) : ∀ (k i o : Nat), i + k = (mP m).length → o ≤ 1 + 2 * i → Go (l, wM, D, ad, cA) 1 m_M_isTyped (fun v S' => v = .int (b2 (clT (mB m) ((mP m).drop i) o = true)) ∧ S' = S) 4 [some (.ref 0), some (.int (nI o)), some (.int (nI i))] [] S
  | 0, i, o, e, ho => by
    have h90 := hm.1
    have hd : (mP m).drop i = [] := List.drop_eq_nil_of_le (by omega)
    have ei : i = (mP m).length := by omega
    rw [hd, clT]
    refine (g_ld rfl rfl rfl (g_ld rfl rfl rfl (g_gi rfl rfl rfl rfl rfl (g_if rfl rfl (fun zc9 => (g_ld rfl rfl rfl (g_if rfl rfl (fun zc68 => (g_c rfl rfl (g_ri rfl rfl rfl ?_))) (fun zc68 => (g_ld rfl rfl rfl (g_ld rfl rfl rfl (g_gi rfl rfl rfl rfl rfl (g_if rfl rfl (fun zc76 => (g_c rfl rfl (g_ri rfl rfl rfl ?_))) (fun zc76 => (g_c rfl rfl (g_go rfl (g_ri rfl rfl rfl ?_)))))))))))) (fun zc9 => ?_)))))
    · rw [b2_f (by intro q; exact zc68 (by rw [of_decide_eq_true q]; rfl))]
      exact ⟨rfl, rfl⟩
    · rw [h.1, ei] at zc76
      exact absurd rfl zc76
    · have e0 : o = 0 := eq_n (b := 0) (Decidable.not_not.mp zc68)
      rw [b2_t (by rw [e0]; rfl)]
      exact ⟨rfl, rfl⟩
    · rw [h.1] at zc9
      have := nle_n zc9
      omega
  | k + 1, i, o, e, ho => by
    have h90 := hm.1
    have h4 := hm.2.2.1.1
    have hi : i < (mP m).length := by omega
    have r1 : S.1 1 (nI i).toNatClampNeg = nI ((mP m).getD i 0) := by
      rw [nI_clamp (by omega)]
      have := h.2.1 i hi
      rw [Nat.zero_add] at this
      exact this
    have hc126 : (mP m).getD i 0 ≤ 126 := by
      rw [List.getD_eq_getElem?_getD, List.getElem?_eq_getElem hi]
      exact (hm.2.1 _ (List.getElem_mem hi)).2
    have hh : 48 + S.1 0 10 - 1 = nI (47 + bN (mB m)) := by
      rw [h.2.2.1.1, show (48 : Int32) = nI 48 from rfl, nI_add, show 48 + bN (mB m) = (47 + bN (mB m)) + 1 by omega, nI_succ, Int32.add_sub_cancel]
    have hkne : ¬ nI i = S.1 0 1 := fun z => by
      rw [h.1] at z
      have := eq_n z
      omega
    rw [drop_at hi]
    refine (g_ld rfl rfl rfl (g_ld rfl rfl rfl (g_gi rfl rfl rfl rfl rfl (g_if rfl rfl (fun zc9 => ?_) (fun zc9 => (g_ld rfl rfl rfl (g_if rfl rfl (fun zc13 => ?_) (fun zc13 => (g_ld rfl rfl rfl (g_gr rfl rfl rfl rfl rfl (g_ld rfl rfl rfl (g_ald rfl rfl rfl ?_ (g_un rfl rfl (g_c rfl rfl (g_c rfl rfl (g_ld rfl rfl rfl (g_gi rfl rfl rfl rfl rfl (g_bin rfl rfl (g_c rfl rfl (g_bin rfl rfl (g_un rfl rfl (g_cs rfl (s_inE (lo := 48) (hi := 48 + S.1 0 10 - 1) rfl rfl) (by omega) rfl rfl rfl rfl rfl rfl (z_k1 (g_if rfl rfl (fun zc39 => ?_) (fun zc39 => (g_ld rfl rfl rfl (g_ld rfl rfl rfl (g_gr rfl rfl rfl rfl rfl (g_ld rfl rfl rfl (g_gr rfl rfl rfl rfl rfl (g_ld rfl rfl rfl (g_ald rfl rfl rfl ?_ (g_c rfl rfl (g_bin rfl rfl (g_ald rfl rfl rfl ?_ (g_c rfl rfl (g_bin rfl rfl (g_bin rfl rfl (g_st rfl rfl rfl rfl rfl (g_inc rfl rfl rfl rfl (g_go rfl ?_)))))))))))))))))))))))))))))))))))))))))
    · rw [h.1] at zc9
      have := le_n zc9
      omega
    · have e0 : o = 0 := by
        have := le_n (b := 0) zc13
        omega
      rw [e0, clT, b2_f (by decide)]
      refine (g_ld rfl rfl rfl (g_if rfl rfl (fun zc68 => (g_c rfl rfl (g_ri rfl rfl rfl ?_))) (fun zc68 => (g_ld rfl rfl rfl (g_ld rfl rfl rfl (g_gi rfl rfl rfl rfl rfl (g_if rfl rfl (fun zc76 => (g_c rfl rfl (g_ri rfl rfl rfl ?_))) (fun zc76 => (g_c rfl rfl (g_go rfl (g_ri rfl rfl rfl ?_)))))))))))
      · exact ⟨rfl, rfl⟩
      · exact ⟨rfl, rfl⟩
      · exact absurd (Decidable.not_not.mp zc76) hkne
    · exact vp_in_nI (show i < 90 by omega) (by decide)
    · obtain ⟨o', eo⟩ : ∃ o', o = o' + 1 := ⟨o - 1, by
        have := nle_n (b := 0) zc13
        omega⟩
      subst eo
      rw [r1, hh] at zc39
      have g := b2_0.mp zc39
      have g2 : ¬ (48 ≤ (mP m).getD i 0 ∧ (mP m).getD i 0 < 48 + bN (mB m)) := fun z => g ⟨nI_le (a := 48) z.1 (by omega), nI_le (by omega) (by omega)⟩
      rw [clT, if_neg g2, b2_f (by decide)]
      refine (g_ld rfl rfl rfl (g_if rfl rfl (fun zc68 => (g_c rfl rfl (g_ri rfl rfl rfl ?_))) (fun zc68 => (g_ld rfl rfl rfl (g_ld rfl rfl rfl (g_gi rfl rfl rfl rfl rfl (g_if rfl rfl (fun zc76 => (g_c rfl rfl (g_ri rfl rfl rfl ?_))) (fun zc76 => (g_c rfl rfl (g_go rfl (g_ri rfl rfl rfl ?_)))))))))))
      · exact ⟨rfl, rfl⟩
      · exact ⟨rfl, rfl⟩
      · exact absurd (Decidable.not_not.mp zc76) hkne
    · exact vp_in_nI (show i < 90 by omega) (by decide)
    · rw [r1, hh] at zc39
      have g := b2_n.mp zc39
      have g1 := le_n (a := 48) g.1
      have g2 := le_n g.2
      rw [r1, sub48 g1]
      exact vp_in_nI (show (mP m).getD i 0 - 48 < 4 by omega) (by decide)
    · obtain ⟨o', eo⟩ : ∃ o', o = o' + 1 := ⟨o - 1, by
        have := nle_n (b := 0) zc13
        omega⟩
      subst eo
      rw [r1, hh] at zc39
      have g := b2_n.mp zc39
      have g1 := le_n (a := 48) g.1
      have g2 := le_n g.2
      have hP2 := hm.2.2.1.2.1 ((mP m).getD i 0 - 48)
      have e1 : nI (o' + 1) + (nI (bP (mB m) ((mP m).getD i 0 - 48)) - 1) = nI (o' + bP (mB m) ((mP m).getD i 0 - 48)) := by
        rw [nI_succ, Int32.add_assoc, show (1 : Int32) + (nI (bP (mB m) ((mP m).getD i 0 - 48)) - 1) = nI (bP (mB m) ((mP m).getD i 0 - 48)) by rw [Int32.add_comm, Int32.sub_add_cancel], nI_add]
      rw [r1, sub48 g1, nI_clamp (by omega), h.2.2.1.2.1 _ (by omega), e1, clT, if_pos ⟨g1, by omega⟩]
      have := lp_typed h hm hn k (i + 1) (o' + bP (mB m) ((mP m).getD i 0 - 48)) (by omega) (by omega)
      rw [nI_succ] at this
      exact this
theorem s_isTyped (h : InvM S m) (hm : MOk m) (hn : 0 < bN (mB m)) : Sp (l, wM, D, ad, cA) 1 m_M_isTyped [.ref 0] S (fun v S' => v = .int (b2 (clT (mB m) (mP m) 1 = true)) ∧ S' = S) := by
  refine Sp.of dk_M_isTyped ok_M_isTyped rfl (g_c rfl rfl (g_st rfl rfl rfl rfl rfl (g_c rfl rfl (g_st rfl rfl rfl rfl rfl ?_))))
  exact lp_typed h hm hn (mP m).length 0 1 (by omega) (by omega)
theorem lp_tyM (hs : s < 8) (h : InvM S0 m) (hm : MOk m) (h15 : (mP m).length ≤ 15) (hg : ∀ c ∈ mP m, 48 ≤ c) {Post : Value → zS → Prop} (K : ∀ T, Am [13] [] S0 T → At (T.1 13) (16 * s) (pgT (mP m)) → (∀ j, ¬ (16 * s ≤ j ∧ j < 16 * s + 16) → T.1 13 j = S0.1 13 j) → Go (l, wM, D, ad, cA) 2 m_M_type Post 80 [some (.ref 0), some (.int (nI s)), some (.int (nI (mP m).length))] [] T) : ∀ (k i : Nat) (S : zS), i + k = (mP m).length → Am [13] [] S0 S → At (S.1 13) (16 * s) (pgT ((mP m).take i)) → (∀ j, ¬ (16 * s ≤ j ∧ j < 16 * s + 16) → S.1 13 j = S0.1 13 j) → Go (l, wM, D, ad, cA) 2 m_M_type Post 46 [some (.ref 0), some (.int (nI s)), some (.int (nI i))] [] S
  | 0, i, S, e, hA, hz, ho => by
    have e8 : i = (mP m).length := by omega
    subst e8
    rw [List.take_of_length_le (Nat.le_refl _)] at hz
    refine (g_ld rfl rfl rfl (g_ld rfl rfl rfl (g_gi rfl rfl rfl rfl rfl (g_if rfl rfl (fun zc51 => ?_) (fun zc51 => ?_)))))
    · exact K S hA hz ho
    · rw [hA.2.1 1 (by decide), h.1] at zc51
      exact absurd (Int32.le_refl _) zc51
  | k + 1, i, S, e, hA, hz, ho => by
    have hi : i < (mP m).length := by omega
    have hlen : (pgT ((mP m).take i)).length = i := by unfold pgT; simp; omega
    have r1 : S.1 1 (nI i).toNatClampNeg = nI ((mP m).getD i 0) := by
      rw [nI_clamp (by omega), hA.1 1 (by decide) (by decide)]
      have := h.2.1 i hi
      rw [Nat.zero_add] at this
      exact this
    have h48 : 48 ≤ (mP m).getD i 0 := by
      rw [List.getD_eq_getElem?_getD, List.getElem?_eq_getElem hi]
      exact hg _ (List.getElem_mem hi)
    refine (g_ld rfl rfl rfl (g_ld rfl rfl rfl (g_gi rfl rfl rfl rfl rfl (g_if rfl rfl (fun zc51 => ?_) (fun zc51 => (g_ld rfl rfl rfl (g_gr rfl rfl rfl rfl rfl (g_c rfl rfl (g_ld rfl rfl rfl (g_bin rfl rfl (g_ld rfl rfl rfl (g_bin rfl rfl (g_ld rfl rfl rfl (g_gr rfl rfl rfl rfl rfl (g_ld rfl rfl rfl (g_ald rfl rfl rfl ?_ (g_c rfl rfl (g_bin rfl rfl (g_ast rfl rfl rfl ?_ (g_inc rfl rfl rfl rfl (g_go rfl ?_)))))))))))))))))))))
    · rw [hA.2.1 1 (by decide), h.1] at zc51
      have := le_n zc51
      omega
    · exact vp_in_nI (show i < 90 by omega) (by decide)
    · rw [e16]; exact vp_in_nI (show 16 * s + i < 128 by omega) (by decide)
    · rw [r1, sub48 h48, e16, nI_clamp (by omega)]
      have := lp_tyM hs h hm h15 hg K k (i + 1) (z_ui S 13 (16 * s + i) (nI ((mP m).getD i 0 - 48))) (by omega) (hA.ui (by decide) (by decide)) (by
        have e3 : pgT ((mP m).take (i + 1)) = pgT ((mP m).take i) ++ [(mP m).getD i 0 - 48] := by
          rw [take_s hi]
          unfold pgT
          rw [List.map_append]
          rfl
        rw [e3, ui_at]
        have := At.push (s := (mP m).getD i 0 - 48) hz
        rw [hlen] at this
        exact this) (fun j hj => by
        rw [ui_at, pk_un (by omega)]
        exact ho j hj)
      rw [nI_succ i] at this
      exact this
/-- a slot is set -/
theorem InvM.slot (h : InvM S m) {s : Nat} {t : List Nat} (hA : Am [12, 13] [] S S') (h1 : S'.1 12 s = nI t.length) (h12 : ∀ j, j ≠ s → S'.1 12 j = S.1 12 j) (h2 : At (S'.1 13) (16 * s) t) (h13 : ∀ j, ¬ (16 * s ≤ j ∧ j < 16 * s + 16) → S'.1 13 j = S.1 13 j) (hl : ∀ k, k < 8 → (mS m k).length ≤ 15) : InvM S' (m_slot m s t) := by
  refine h.now (hA.mono (by simp) (by simp)) ⟨?_, fun k hk => ?_, ?_, ?_⟩ (by rw [hA.1 14 (by decide) (by decide)]; exact h.2.2.2.2.1) (by rw [hA.2.1 22 (by decide)]; exact h.2.2.2.2.2.1)
  · unfold KdM
    rw [hA.1 11 (by decide) (by decide)]
    exact h.2.2.2.1.1
  · show S'.1 12 k = nI (if k = s then t else mS m k).length ∧ At (S'.1 13) (16 * k) (if k = s then t else mS m k)
    by_cases e : k = s
    · rw [if_pos e, e]; exact ⟨h1, h2⟩
    · rw [if_neg e, h12 k e]
      have := h.2.2.2.1.2.1 k hk
      have hl' := hl k hk
      exact ⟨this.1, this.2.congr (fun i hi => h13 _ (by have hi : i < (mS m k).length := hi; omega))⟩
  · rw [hA.2.1 34 (by decide)]; exact h.2.2.2.1.2.2.1
  · rw [hA.1 22 (by decide) (by decide)]; exact h.2.2.2.1.2.2.2
theorem y_type (h : InvM S m) (hm : MOk m) : Sp (l, wM, D, ad, cA) 2 m_M_type [.ref 0, .int x] S (fun v S' => v = .int (v_type m x) ∧ InvM S' (m_type m x)) := by
  have h90 := hm.1
  have h4 := hm.2.2.1.1
  unfold v_type m_type
  refine Sp.of dk_M_type ok_M_type rfl (g_ld rfl rfl rfl (g_un rfl rfl (g_c rfl rfl (g_c rfl rfl (g_cs rfl (s_inE (lo := 0) (hi := 7) rfl rfl) (by omega) rfl rfl rfl rfl rfl rfl (z_k1 (g_if rfl rfl (fun zc9 => (g_ld rfl rfl rfl (g_gi rfl rfl rfl rfl rfl (g_if rfl rfl (fun zc19 => (g_c rfl rfl (g_ri rfl rfl rfl ?_))) (fun zc19 => ?_))))) (fun zc9 => (g_c rfl rfl (g_ri rfl rfl rfl ?_))))))))))
  · have a := b2_n.mp zc9
    rw [in07] at a
    rw [h.2.2.1.1] at zc19
    have hn : bN (mB m) = 0 := eq_n (b := 0) zc19
    have hc : ¬ clT (mB m) (mP m) 1 = true := by rw [clT_0 hn]; decide
    rw [if_pos a, if_pos a, if_neg hc, if_neg hc]
    exact ⟨rfl, h⟩
  · have a := b2_n.mp zc9
    rw [in07] at a
    rw [if_pos a, if_pos a]
    rw [h.2.2.1.1] at zc19
    have hn : 0 < bN (mB m) := Nat.pos_of_ne_zero (fun z => zc19 (by rw [z]; rfl))
    obtain ⟨s, hs, ex, e2⟩ := in_cl (n := 8) a.1 a.2
    rw [e2, ex]
    refine (g_ld rfl rfl rfl (g_cv rfl (s_isTyped h hm hn) (by omega) rfl rfl rfl rfl rfl rfl rfl rfl rfl (z_k1 (g_if rfl rfl (fun zc26 => (g_ld rfl rfl rfl (g_gi rfl rfl rfl rfl rfl (g_c rfl rfl (g_if rfl rfl (fun zc38 => ?_) (fun zc38 => (g_c rfl rfl (g_ri rfl rfl rfl ?_)))))))) (fun zc26 => (g_c rfl rfl (g_ri rfl rfl rfl ?_)))))))
    · have b := b2_n.mp zc26
      have c : (mP m).length ≤ 15 := by
        rw [h.1] at zc38
        exact le_n (b := 15) zc38
      rw [if_pos b, if_pos b, if_pos c, if_pos c]
      refine (g_c rfl rfl (g_st rfl rfl rfl rfl rfl ?_))
      refine lp_tyM hs h hm c (clT_ge _ _ b) (fun T hA hT hout => ?_) (mP m).length 0 S (by omega) Am.rf At.nil (fun _ _ => rfl)
      refine (g_ld rfl rfl rfl (g_gr rfl rfl rfl rfl rfl (g_ld rfl rfl rfl (g_ld rfl rfl rfl (g_gi rfl rfl rfl rfl rfl (g_ast rfl rfl rfl ?_ (g_ld rfl rfl rfl (g_c rfl rfl (g_pi rfl rfl rfl rfl rfl rfl rfl (g_ld rfl rfl rfl (g_gr rfl rfl rfl rfl rfl (g_ld rfl rfl rfl (g_ald rfl rfl rfl ?_ (g_ri rfl rfl rfl ?_))))))))))))))
      · exact vp_in_nI hs (by decide)
      · exact vp_in_nI hs (by decide)
      · rw [nI_clamp (by omega), hA.2.1 1 (by decide), h.1]
        refine ⟨by rw [ui_ne (by decide), ui_at, pk_us], ?_⟩
        have hl : (pgT (mP m)).length = (mP m).length := by unfold pgT; rw [List.length_map]
        have hI : InvM (z_ui T 12 s (nI (mP m).length)) (m_slot m s (pgT (mP m))) := by
          refine h.slot ((hA.mono (by simp) (by simp)).ui (by decide) (by decide)) (by rw [ui_at, pk_us, hl]) (fun j hj => by rw [ui_at, pk_un hj, hA.1 12 (by decide) (by decide)]) (by rw [ui_ne (by decide)]; exact hT) (fun j hj => by rw [ui_ne (by decide)]; exact hout j hj) hm.2.2.2.1.l15
        exact hI.page (Am.rf.fd (by decide)) (by rw [ui_at, pk_us]; rfl) At.nil
    · have b := b2_n.mp zc26
      have c : ¬ (mP m).length ≤ 15 := fun q => zc38 (by rw [h.1]; exact nI_le (b := 15) q (by omega))
      rw [if_pos b, if_pos b, if_neg c, if_neg c]
      exact ⟨rfl, h⟩
    · have b := b2_0.mp (Decidable.not_not.mp zc26)
      rw [if_neg b, if_neg b]
      exact ⟨rfl, h⟩
  · have a := b2_0.mp (Decidable.not_not.mp zc9)
    rw [in07] at a
    rw [if_neg a, if_neg a]
    exact ⟨rfl, h⟩
end
