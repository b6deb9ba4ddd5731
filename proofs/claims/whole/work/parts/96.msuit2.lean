/-! the reference: isSuiting, suits, stores -/
section
variable {l : Launch} {D : va_G} {ad : Nat → Nat} {cA : ClassId} {x y z w : Int32} {S S' S0 : zS} {m : Mt} {B : Bk} {V : Nat → Nat} {t u v A : List Nat} {n p k r c j s o a b i N st of L n0 : Nat} {x1 x2 : Int32}
theorem GoalAt.keep (h : GoalAt S i t u n) (h17 : ∀ j, j < n → S'.1 17 j = S.1 17 j) (h18 : S'.1 18 i = S.1 18 i) (h19 : S'.1 19 i = S.1 19 i) (h20 : S'.1 20 i = S.1 20 i) : GoalAt S' i t u n := by
  obtain ⟨a, b, q1, q2, q3, q4, q5, q6, q7⟩ := h
  exact ⟨a, b, by rw [h18]; exact q1, by rw [h19]; exact q2, by rw [h20]; exact q3, q4.congr (fun j hj => h17 _ (by omega)), q5.congr (fun j hj => h17 _ (by omega)), q6, q7⟩
theorem lp_g (hB : BkM S0 B) (hW : WfB B) (hV : ∀ j, V j < 4) (h14 : ∀ j, j < 8 → S0.1 14 j = nI (V j)) {Post : Value → zS → Prop} : ∀ (M i n : Nat) (t u : List Nat) (S : zS) (w3 w4 : Option Value), CT B t → CT B u → t.length ≤ M → u.length ≤ M → M ≤ 15 → Am [17, 18, 19, 20] [27, 31] S0 S → S.1 0 31 = nI (i + 1) → GoalAt S i t u n → n + cM M ≤ 4000 → i + 1 + 4 * M ≤ 400 → (sF B V 16 t u = true → ∀ (T : zS) (w3 w4 : Option Value), Am [17, 18, 19, 20] [27, 31] S0 T → T.1 0 31 = nI i → (∀ j, j < n → T.1 17 j = S.1 17 j) → (∀ j, j < i → T.1 18 j = S.1 18 j ∧ T.1 19 j = S.1 19 j ∧ T.1 20 j = S.1 20 j) → Go (l, wM, D, ad, cA) 2 m_M_isSuiting Post 11 [some (.ref 0), some (.int x1), some (.int x2), w3, w4] [] T) → (¬ sF B V 16 t u = true → ∀ T, Am [17, 18, 19, 20] [27, 31] S0 T → Post (.int 0) T) → Go (l, wM, D, ad, cA) 2 m_M_isSuiting Post 11 [some (.ref 0), some (.int x1), some (.int x2), w3, w4] [] S
  | 0, i, n, t, u, S, w3, w4, ht, _, htl, _, _, _, _, _, _, _, _, _ => by
    obtain ⟨c, r, e, -, -⟩ := ht.ne
    rw [e] at htl
    simp at htl
  | M + 1, i, n, t, u, S, w3, w4, ht, hu, htl, hul, hM, hA, h31, hG, hn, hi, Kt, Kf => by
    have h4 := hW.1
    obtain ⟨a, b, g1, g2, g3, g4, g5, g6, g7⟩ := hG
    have hcM : cM (M + 1) = 4 * (2 * M + 3) + cM M := rfl
    have hin : vp_in (nI i) 400 := vp_in_nI (show i < 400 by omega) (by decide)
    have e31 : S.1 0 31 - 1 = nI i := by rw [h31, nI_succ, Int32.add_sub_cancel]
    have st16 := sF_16 (V := V) hW ht hu (by omega) (by omega)
    obtain ⟨c0, r0, e0, ea0, hc0⟩ := ht.ne
    refine (g_ld rfl rfl rfl (g_gi rfl rfl rfl rfl rfl (g_if rfl rfl (fun zc15 => (g_c rfl rfl (g_ri rfl rfl rfl ?_))) (fun zc15 => (g_ld rfl rfl rfl (g_dup rfl rfl (g_gi rfl rfl rfl rfl rfl (g_c rfl rfl (g_bin rfl rfl (g_pi rfl rfl rfl rfl rfl rfl rfl (g_ld rfl rfl rfl (g_gr rfl rfl rfl rfl rfl (g_ld rfl rfl rfl (g_gi rfl rfl rfl rfl rfl (g_ald rfl rfl rfl ?_ (g_st rfl rfl rfl rfl rfl (g_ld rfl rfl rfl (g_gr rfl rfl rfl rfl rfl (g_ld rfl rfl rfl (g_gi rfl rfl rfl rfl rfl (g_ald rfl rfl rfl ?_ (g_st rfl rfl rfl rfl rfl (g_ld rfl rfl rfl (g_ld rfl rfl rfl (g_gr rfl rfl rfl rfl rfl (g_ld rfl rfl rfl (g_gi rfl rfl rfl rfl rfl (g_ald rfl rfl rfl ?_ (g_pi rfl rfl rfl rfl rfl rfl rfl ?_)))))))))))))))))))))))))))))
    · rw [h31] at zc15
      exact absurd zc15 (nI_nle (by omega) (by omega))
    · rw [e31, ui_at, pk_us]; exact hin
    · rw [e31, ui_at, pk_us]; exact hin
    · rw [e31, ui_at, pk_us]; exact hin
    · rw [e31, ui_at, pk_us, nI_clamp (show i < 2 ^ 31 by omega), ui_ne (show (18 : Nat) ≠ 0 by decide), ui_ne (show (19 : Nat) ≠ 0 by decide), ui_ne (show (20 : Nat) ≠ 0 by decide), g1, g2, g3]
      have hA1 : Am [17, 18, 19, 20] [27, 31] S0 (z_ui (z_ui S 0 31 (nI i)) 0 27 (nI n)) := (hA.fd (by decide)).fd (by decide)
      have c17 : ∀ q, q ≠ 0 → (z_ui (z_ui S 0 31 (nI i)) 0 27 (nI n)).1 q = S.1 q := fun q hq => by rw [ui_ne hq, ui_ne hq]
      refine lp_climb (L := M + 1) hB hW hu (by omega) 4 t a n _ ht (by omega) (by omega) (fun p hp => by have := (arg_pos hW ht hp).2.1; omega) hA1 (by rw [ui_at, pk_us]) (by rw [c17 17 (by decide)]; exact g4) g6 (by rw [c17 17 (by decide)]; exact g5) g7 (by omega) (fun w' a' n' T k1 k2 k3 k4 k5 k6 k7 k8 k9 k10 => ?_) (fun hno T hT => Kf (fun hs => ?_) T hT)
      · have hTA : Am [17, 18, 19, 20] [27, 31] S0 T := hA1.tr (k4.mono (by simp) (by simp))
        have hB2 : BkM T B := hB.am hTA
        have h142 : ∀ j, j < 8 → T.1 14 j = nI (V j) := by rw [hTA.1 14 (by decide) (by decide)]; exact h14
        have T31 : T.1 0 31 = nI i := by rw [k4.2.1 31 (by decide), ui_at, pk_un (by decide), ui_at, pk_us]
        have T17 : ∀ j, j < n → T.1 17 j = S.1 17 j := fun j hj => by rw [k10 j hj, c17 17 (by decide)]
        have Tar : ∀ q, q = 18 ∨ q = 19 ∨ q = 20 → T.1 q = S.1 q := fun q hq => by
          have q0 : q ≠ 0 := by omega
          rw [k4.1 q q0 (by simp; omega), c17 q q0]
        have hu17 : At (T.1 17) b u := g5.congr (fun j hj => T17 _ (by omega))
        refine (g_ld rfl rfl rfl (g_ld rfl rfl rfl (g_ld rfl rfl rfl (g_cv rfl (s_addGoals (c := ahd u) (i := i) (n := n') hB2 hW hV h142 k2 hu k3 rfl k6 hu17 k7 (by omega) (by omega) k5 T31 (by omega)) (by omega) rfl rfl rfl rfl rfl rfl rfl rfl rfl (fun zv137 zS137 zh137 => ?_)))))
        obtain ⟨rfl, hGs⟩ := zh137
        refine (g_go rfl ?_)
        have hmem : ∀ g, g ∈ sbK (bP B) V w' u (ahd u) (bP B (ahd u)) → CT B g.1 ∧ CT B g.2 ∧ g.1.length ≤ M ∧ g.2.length ≤ M := by
          intro g hg
          obtain ⟨p, hp, hcase⟩ := (sbK_mem _ g).mp hg
          have h2 := ct_two hW hu hp
          have la := ct_args hW hu hul p hp
          have lw := clL_len hW (L := M) (by omega) 4 t w' ht (ct_args hW ht htl) k1 p (by rw [k3]; exact hp)
          have ca := (arg_pos hW hu hp).1
          have cw := (arg_pos hW k2 (p := p) (by rw [k3]; exact hp)).1
          rcases hcase with ⟨-, e⟩ | ⟨-, e⟩
          · rw [e]; exact ⟨cw, ca, lw, la⟩
          · rw [e]; exact ⟨ca, cw, la, lw⟩
        have hlenL := sbK_len (P := bP B) (V := V) (t := w') (u := u) (c := ahd u) (bP B (ahd u))
        have hP2 := hW.2.1 (ahd u)
        have hall : (∀ g, g ∈ sbK (bP B) V w' u (ahd u) (bP B (ahd u)) → sF B V 16 g.1 g.2 = true) → sF B V 16 t u = true := by
          intro hg
          refine st16.mpr ⟨w', k1, k2, k3, fun p hp => ⟨fun hb => ?_, fun hb => ?_⟩⟩
          · exact hg (arg (bP B) w' p, arg (bP B) u p) ((sbK_mem _ _).mpr ⟨p, hp, Or.inl ⟨hb, rfl⟩⟩)
          · exact hg (arg (bP B) u p, arg (bP B) w' p) ((sbK_mem _ _).mpr ⟨p, hp, Or.inr ⟨hb, rfl⟩⟩)
        have hone : ∀ g, g ∈ sbK (bP B) V w' u (ahd u) (bP B (ahd u)) → sF B V 16 t u = true → sF B V 16 g.1 g.2 = true := by
          intro g hg hs
          obtain ⟨w2, q1, q2, q3, q4⟩ := st16.mp hs
          rw [k1] at q1
          cases q1
          obtain ⟨p, hp, hcase⟩ := (sbK_mem _ g).mp hg
          rcases hcase with ⟨hb, e⟩ | ⟨hb, e⟩
          · rw [e]; exact (q4 p hp).1 hb
          · rw [e]; exact (q4 p hp).2 hb
        have subs : ∀ (j : Nat) (T3 : zS) (w3 w4 : Option Value), j ≤ (sbK (bP B) V w' u (ahd u) (bP B (ahd u))).length → Am [17, 18, 19, 20] [27, 31] S0 T3 → T3.1 0 31 = nI (i + j) → (∀ r, r < j → GoalAt T3 (i + r) ((sbK (bP B) V w' u (ahd u) (bP B (ahd u))).getD r ([], [])).1 ((sbK (bP B) V w' u (ahd u) (bP B (ahd u))).getD r ([], [])).2 n') → (∀ q, q < n → T3.1 17 q = S.1 17 q) → (∀ q, q < i → T3.1 18 q = S.1 18 q ∧ T3.1 19 q = S.1 19 q ∧ T3.1 20 q = S.1 20 q) → (∀ r, j ≤ r → r < (sbK (bP B) V w' u (ahd u) (bP B (ahd u))).length → sF B V 16 ((sbK (bP B) V w' u (ahd u) (bP B (ahd u))).getD r ([], [])).1 ((sbK (bP B) V w' u (ahd u) (bP B (ahd u))).getD r ([], [])).2 = true) → Go (l, wM, D, ad, cA) 2 m_M_isSuiting Post 11 [some (.ref 0), some (.int x1), some (.int x2), w3, w4] [] T3 := by
          intro j
          induction j with
          | zero =>
            intro T3 w3 w4 _ hT3 h31' _ hp17 har hok
            refine Kt (hall (fun g hg => ?_)) T3 w3 w4 hT3 h31' hp17 har
            obtain ⟨r, hr, hgr⟩ := List.getElem_of_mem hg
            have := hok r (Nat.zero_le _) hr
            rw [List.getD_eq_getElem?_getD, List.getElem?_eq_getElem hr] at this
            rw [← hgr]
            exact this
          | succ j ihj =>
            intro T3 w3 w4 hj hT3 h31' hgs hp17 har hok
            have hjm : (sbK (bP B) V w' u (ahd u) (bP B (ahd u))).getD j ([], []) ∈ sbK (bP B) V w' u (ahd u) (bP B (ahd u)) := by
              rw [List.getD_eq_getElem?_getD, List.getElem?_eq_getElem (by omega)]
              exact List.getElem_mem _
            obtain ⟨m1, m2, m3, m4⟩ := hmem _ hjm
            refine lp_g hB hW hV h14 M (i + j) n' _ _ T3 w3 w4 m1 m2 m3 m4 (by omega) hT3 h31' (hgs j (by omega)) (by omega) (by omega) (fun hR T4 w3 w4 hT4 h314 h174 har4 => ?_) (fun hR T4 hT4 => Kf (fun hs => hR (hone _ hjm hs)) T4 hT4)
            refine ihj T4 w3 w4 (by omega) hT4 h314 (fun r hr => (hgs r (by omega)).keep h174 (har4 _ (by omega)).1 (har4 _ (by omega)).2.1 (har4 _ (by omega)).2.2) (fun q hq => by rw [h174 q (by omega)]; exact hp17 q hq) (fun q hq => by
              have z1 := har4 q (by omega)
              have z2 := har q hq
              exact ⟨by rw [z1.1]; exact z2.1, by rw [z1.2.1]; exact z2.2.1, by rw [z1.2.2]; exact z2.2.2⟩) (fun r h1 h2 => ?_)
            by_cases e : r = j
            · rw [e]; exact hR
            · exact hok r (by omega) h2
        have p17 : zS137.1 17 = T.1 17 := hGs.1.1 17 (by decide) (by decide)
        refine subs (sbK (bP B) V w' u (ahd u) (bP B (ahd u))).length zS137 _ _ (Nat.le_refl _) (hTA.tr (hGs.1.mono (by simp) (by simp))) hGs.2.1 hGs.2.2.1 (fun q hq => by rw [p17]; exact T17 q hq) (fun q hq => by
          obtain ⟨z1, z2, z3⟩ := hGs.2.2.2 q hq
          exact ⟨by rw [z1, Tar 18 (by omega)], by rw [z2, Tar 19 (by omega)], by rw [z3, Tar 20 (by omega)]⟩) (fun r h1 h2 => absurd h2 (by omega))
      · obtain ⟨w', q1, q2, q3, -⟩ := st16.mp hs
        exact hno ⟨w', q1, q2, q3⟩
theorem s_isSuiting (hB : BkM S B) (hW : WfB B) (hV : ∀ j, V j < 4) (h14 : ∀ j, j < 8 → S.1 14 j = nI (V j)) (ht : CT B t) (hu : CT B u) (htl : t.length ≤ 15) (hul : u.length ≤ 15) (h1 : At (S.1 17) a t) (h2 : At (S.1 17) b u) (ha : a + t.length ≤ n) (hb : b + u.length ≤ n) (hn : n ≤ 2900) (h27 : S.1 0 27 = nI n) : Sp (l, wM, D, ad, cA) 2 m_M_isSuiting [.ref 0, .int (nI a), .int (nI b)] S (fun v S' => v = .int (b2 (sF B V 16 t u = true)) ∧ Am [17, 18, 19, 20] [27, 31] S S') := by
  refine Sp.of dk_M_isSuiting ok_M_isSuiting rfl (g_ld rfl rfl rfl (g_c rfl rfl (g_pi rfl rfl rfl rfl rfl rfl rfl (g_ld rfl rfl rfl (g_ld rfl rfl rfl (g_ld rfl rfl rfl (g_cv rfl (s_goal (i := 0) (by omega) (by rw [ui_at, pk_us]; rfl)) (by omega) rfl rfl rfl rfl rfl rfl rfl rfl rfl (fun zv8 zS8 zh8 => ?_))))))))
  obtain ⟨rfl, rfl⟩ := zh8
  have c17 : ∀ q, q ≠ 0 → q ≠ 18 → q ≠ 19 → q ≠ 20 → (z_ui (z_ui (z_ui (z_ui (z_ui S 0 31 0) 18 0 (nI a)) 19 0 (nI b)) 20 0 ((z_ui S 0 31 0).1 0 27)) 0 31 (nI (0 + 1))).1 q = S.1 q := fun q q0 q1 q2 q3 => by rw [ui_ne q0, ui_ne q3, ui_ne q2, ui_ne q1, ui_ne q0]
  refine lp_g (S0 := S) hB hW hV h14 15 0 n t u _ none none ht hu htl hul (Nat.le_refl _) (((((Am.rf.fd (by decide)).ui (by decide) (by decide)).ui (by decide) (by decide)).ui (by decide) (by decide)).fd (by decide)) (by rw [ui_at, pk_us]) ⟨a, b, ?_, ?_, ?_, ?_, ?_, ha, hb⟩ (by rw [cM_15]; omega) (by omega) (fun hs T w3 w4 hT h31 _ _ => ?_) (fun hs T hT => ⟨by rw [b2_f hs], hT⟩)
  · rw [ui_ne (by decide), ui_ne (by decide), ui_ne (by decide), ui_at, pk_us]
  · rw [ui_ne (by decide), ui_ne (by decide), ui_at, pk_us]
  · rw [ui_ne (by decide), ui_at, pk_us, ui_at, pk_un (by decide)]; exact h27
  · rw [c17 17 (by decide) (by decide) (by decide) (by decide)]; exact h1
  · rw [c17 17 (by decide) (by decide) (by decide) (by decide)]; exact h2
  · refine (g_ld rfl rfl rfl (g_gi rfl rfl rfl rfl rfl (g_if rfl rfl (fun zc15 => (g_c rfl rfl (g_ri rfl rfl rfl ?_))) (fun zc15 => ?_))))
    · exact ⟨by rw [b2_t hs], hT⟩
    · rw [h31] at zc15
      exact absurd (by decide) zc15
theorem y_suits (h : InvM S m) (hm : MOk m) : Sp (l, wM, D, ad, cA) 3 m_M_suits [.ref 0, .int x, .int y] S (fun v S' => v = .int (v_suits m x y) ∧ InvM S' m ∧ S'.2 = S.2) := by
  have hW := hm.2.2.1
  unfold v_suits
  refine Sp.of dk_M_suits ok_M_suits rfl (g_ld rfl rfl rfl (g_ld rfl rfl rfl (g_cv rfl (s_isFull h) (by omega) rfl rfl rfl rfl rfl rfl rfl rfl rfl (z_k1 (g_if rfl rfl (fun zc5 => (g_c rfl rfl (g_ri rfl rfl rfl ?_))) (fun zc5 => (g_ld rfl rfl rfl (g_ld rfl rfl rfl (g_cv rfl (s_isFull h) (by omega) rfl rfl rfl rfl rfl rfl rfl rfl rfl (z_k1 (g_if rfl rfl (fun zc13 => ?_) (fun zc13 => (g_c rfl rfl (g_ri rfl rfl rfl ?_))))))))))))))
  · have a := b2_0.mp zc5
    rw [if_neg (fun q => a q.1)]; exact ⟨rfl, h, rfl⟩
  · have a := b2_n.mp zc5
    have b := b2_n.mp zc13
    rw [if_pos ⟨a, b⟩]
    obtain ⟨s, c, hs, e1, e2, hct, h15, -, -, -, -, -, -, hs12, hs13⟩ := gC_M h hm a
    obtain ⟨s', c', hs', e1', e2', hct', h15', -, -, -, -, -, -, hs12', hs13'⟩ := gC_M h hm b
    rw [e2, e2']
    have hU : InvM (z_ui S 0 27 0) m := h.sc (Am.rf (ks := []) (fs := [27]) |>.fd (by decide)).sc
    refine (g_ld rfl rfl rfl (g_c rfl rfl (g_pi rfl rfl rfl rfl rfl rfl rfl (g_ld rfl rfl rfl (g_ld rfl rfl rfl (g_cv rfl (s_addSlot (n := 0) (k := s) (u := mS m s) (by rw [ui_at, pk_us]; rfl) (by rw [ui_ne (by decide)]; exact hs12) (by rw [ui_ne (by decide)]; exact hs13) hs h15 (by omega) e1) (by omega) rfl rfl rfl rfl rfl rfl rfl rfl rfl (fun zv26 zS26 zh26 => ?_)))))))
    obtain ⟨rfl, hA1, q27, -, qAt⟩ := zh26
    rw [Nat.zero_add] at q27
    refine (g_st rfl rfl rfl rfl rfl (g_ld rfl rfl rfl (g_ld rfl rfl rfl (g_cv rfl (s_addSlot (n := (mS m s).length) (k := s') (u := mS m s') q27 (by rw [hA1.1 12 (by decide) (by decide), ui_ne (by decide)]; exact hs12') (by rw [hA1.1 13 (by decide) (by decide), ui_ne (by decide)]; exact hs13') hs' h15' (by omega) e1') (by omega) rfl rfl rfl rfl rfl rfl rfl rfl rfl (fun zv32 zS32 zh32 => ?_)))))
    obtain ⟨rfl, hA2, p27, plow, pAt⟩ := zh32
    have hI2 : InvM zS32 m := (hU.sc hA1.sc).sc hA2.sc
    refine (g_st rfl rfl rfl rfl rfl (g_ld rfl rfl rfl (g_ld rfl rfl rfl (g_ld rfl rfl rfl (g_cv rfl (s_isSuiting (a := 0) (b := (mS m s).length) (n := (mS m s).length + (mS m s').length) hI2.2.2.1 hW (wy_lt (mB m) (mK m)) hI2.2.2.2.2.1 hct hct' h15 h15' (qAt.congr (fun j hj => by rw [Nat.zero_add]; exact plow j hj)) pAt (by omega) (by omega) (by omega) p27) (by omega) rfl rfl rfl rfl rfl rfl rfl rfl rfl (fun zv41 zS41 zh41 => ?_))))))
    obtain ⟨rfl, hA3⟩ := zh41
    have hI3 : InvM zS41 m := hI2.sc hA3.sc
    have h2' : zS41.2 = S.2 := by rw [hA3.2.2, hA2.2.2, hA1.2.2]; rfl
    refine (g_if rfl rfl (fun zc44 => (g_c rfl rfl (g_ri rfl rfl rfl ?_))) (fun zc44 => (g_c rfl rfl (g_go rfl (g_ri rfl rfl rfl ?_)))))
    · rw [zc44]; exact ⟨rfl, hI3, h2'⟩
    · rw [b2_t (b2_n.mp zc44)]; exact ⟨rfl, hI3, h2'⟩
  · have b := b2_0.mp (Decidable.not_not.mp zc13)
    rw [if_neg (fun q => b q.2)]; exact ⟨rfl, h, rfl⟩
theorem y_stores (h : InvM S m) (hm : MOk m) : Sp (l, wM, D, ad, cA) 3 m_M_stores [.ref 0, .int x, .int y, .int z] S (fun v S' => v = .int (v_stores m x y z) ∧ InvM S' m) := by
  have hW := hm.2.2.1
  unfold v_stores
  refine Sp.of dk_M_stores ok_M_stores rfl (g_ld rfl rfl rfl (g_ld rfl rfl rfl (g_cv rfl (s_isFull h) (by omega) rfl rfl rfl rfl rfl rfl rfl rfl rfl (z_k1 (g_if rfl rfl (fun zc5 => (g_c rfl rfl (g_ri rfl rfl rfl ?_))) (fun zc5 => (g_ld rfl rfl rfl (g_ld rfl rfl rfl (g_cv rfl (s_isFull h) (by omega) rfl rfl rfl rfl rfl rfl rfl rfl rfl (z_k1 (g_if rfl rfl (fun zc13 => (g_c rfl rfl (g_ri rfl rfl rfl ?_))) (fun zc13 => ?_))))))))))))
  · have a := b2_0.mp zc5
    have b : ¬ stOk m x y z := fun q => a q.1
    rw [if_neg b]; exact ⟨rfl, h⟩
  · have a := b2_0.mp zc13
    have b : ¬ stOk m x y z := fun q => a q.2.1
    rw [if_neg b]; exact ⟨rfl, h⟩
  · have ax := b2_n.mp zc5
    have a := b2_n.mp zc13
    obtain ⟨s0, c0, hs0, f10, f20, hct0, h150, -, -, -, -, -, -, hs120, hs130⟩ := gC_M h hm ax
    obtain ⟨s, c, hs, e1, e2, hct, h15, r13, e4', e5, hcb, hc4, hin, hs12, hs13⟩ := gC_M h hm a
    refine (g_ld rfl rfl rfl (g_ld rfl rfl rfl (g_gr rfl rfl rfl rfl rfl (g_c rfl rfl (g_ld rfl rfl rfl (g_bin rfl rfl (g_ald rfl rfl rfl hin (g_ld rfl rfl rfl ?_))))))))
    rw [r13]
    refine (g_cv rfl (s_isMemberOf h hm) (by omega) rfl rfl rfl rfl rfl rfl rfl rfl rfl (z_k1 ?_))
    refine (g_if rfl rfl (fun zc30 => ?_) (fun zc30 => (g_c rfl rfl (g_ri rfl rfl rfl ?_))))
    · have g := b2_n.mp zc30
      have g' : 0 ≤ z ∧ z < gM m (gC m y) := by rw [e4']; exact g
      have b : stOk m x y z := ⟨ax, a, g'⟩
      rw [if_pos b]
      obtain ⟨c', j, hc', hc'4, hj, hj3, f1, f2, f3, f4, f5⟩ := kd_at h hm g
      have ec : c' = c := eq_n f1.symm
      subst ec
      have hk5 : mK m (3 * c' + j) < 5 := hm.2.2.2.1.1 (3 * c' + j)
      have hty := (hW.2.2.2.2.1 c' j hc4 hj3).1 hj
      have hrd : rdTy m y z = mTy m (3 * c' + j) s := by
        unfold rdTy
        rw [e4', f2, show (3 : Int32) = nI 3 from rfl, pk_mul, nI_add, nI_clamp (by omega), e2]
      have hgK : gK m (gC m y) z = nI (mK m (3 * c' + j)) := by rw [e4']; exact f5
      rw [hgK, kw_eq _ hk5, hrd, f20]
      have rK : S.1 11 (4 * nI c' + z).toNatClampNeg = nI (mK m (3 * c' + j)) := by rw [f4, f5]
      refine (g_ld rfl rfl rfl (g_gr rfl rfl rfl rfl rfl (g_c rfl rfl (g_ld rfl rfl rfl (g_bin rfl rfl (g_ald rfl rfl rfl ?_ (g_st rfl rfl rfl rfl rfl (g_ld rfl rfl rfl (g_gr rfl rfl rfl rfl rfl (g_c rfl rfl (g_ld rfl rfl rfl (g_bin rfl rfl (g_ld rfl rfl rfl (g_bin rfl rfl (g_ald rfl rfl rfl ?_ ?_)))))))))))))))
      · exact hin
      · rw [r13, f3]; exact vp_in_nI (show 4 * c' + j < 16 by omega) (by decide)
      · rw [r13, rK]
        refine (g_cs rfl (s_waysBy hk5) (by omega) rfl rfl rfl rfl rfl rfl (z_k1 ?_))
        refine (g_c rfl rfl (g_bin rfl rfl (g_if rfl rfl (fun zc63 => ?_) (fun zc63 => (g_c rfl rfl (g_ri rfl rfl rfl ?_))))))
        · rw [if_neg zc63]
          have hU : InvM (z_ui S 0 27 0) m := h.sc (Am.rf (ks := []) (fs := [27]) |>.fd (by decide)).sc
          refine (g_ld rfl rfl rfl (g_c rfl rfl (g_pi rfl rfl rfl rfl rfl rfl rfl (g_ld rfl rfl rfl (g_ld rfl rfl rfl (g_cv rfl (s_addSlot (n := 0) (k := s0) (u := mS m s0) (by rw [ui_at, pk_us]; rfl) (by rw [ui_ne (by decide)]; exact hs120) (by rw [ui_ne (by decide)]; exact hs130) hs0 h150 (by omega) f10) (by omega) rfl rfl rfl rfl rfl rfl rfl rfl rfl (fun zv75 zS75 zh75 => ?_)))))))
          obtain ⟨rfl, hA1, q27, -, qAt⟩ := zh75
          rw [Nat.zero_add] at q27
          refine (g_st rfl rfl rfl rfl rfl (g_ld rfl rfl rfl (g_ld rfl rfl rfl (g_cv rfl (s_addSlot (n := (mS m s0).length) (k := s) (u := mS m s) q27 (by rw [hA1.1 12 (by decide) (by decide), ui_ne (by decide)]; exact hs12) (by rw [hA1.1 13 (by decide) (by decide), ui_ne (by decide)]; exact hs13) hs h15 (by omega) e1) (by omega) rfl rfl rfl rfl rfl rfl rfl rfl rfl (fun zv82 zS82 zh82 => ?_)))))
          obtain ⟨rfl, hA2, p27, plow, pAt⟩ := zh82
          have hI2 : InvM zS82 m := (hU.sc hA1.sc).sc hA2.sc
          obtain ⟨st, t1, t2, t3⟩ := hI2.2.2.1.2.2.2.2.2 c' j hcb hj
          have hal := arg_l (B := mB m) h15
          have hsl := sub_len hal.1 hal.2 (by omega) (bT (mB m) (3 * c' + j))
          have hty2 : TyOk (mB m) (ahd (mS m s)) (bT (mB m) (3 * c' + j)) := by rw [e5]; exact hty
          have qAt2 : At (zS82.1 17) 0 (mS m s0) := qAt.congr (fun j hj => by rw [Nat.zero_add]; exact plow j hj)
          refine (g_st rfl rfl rfl rfl rfl (g_ld rfl rfl rfl (g_ld rfl rfl rfl (g_gr rfl rfl rfl rfl rfl (g_c rfl rfl (g_ld rfl rfl rfl (g_bin rfl rfl (g_ld rfl rfl rfl (g_bin rfl rfl (g_c rfl rfl (g_bin rfl rfl (g_ald rfl rfl rfl ?_ (g_ld rfl rfl rfl ?_)))))))))))))
          · rw [f3, ← nI_succ]; exact vp_in_nI (show 4 * c' + j + 1 < 16 by omega) (by decide)
          · have hidx : zS82.1 9 (4 * nI c' + z + 1).toNatClampNeg = nI st := by rw [f3, ← nI_succ, nI_clamp (by omega)]; exact t1
            refine (g_cv rfl (s_addPut (n := (mS m s0).length + (mS m s).length) (of := (mS m s0).length) (u := mS m s) hI2.2.2.1 hW hct pAt (by omega) t2 t3 hty2 p27 (by omega) hidx rfl) (by omega) rfl rfl rfl rfl rfl rfl rfl rfl rfl (fun zv103 zS103 zh103 => ?_))
            obtain ⟨rfl, hA3, r27, rlow, rAt⟩ := zh103
            have hI3 : InvM zS103 m := hI2.sc hA3.sc
            have rAt : At (zS103.1 17) ((mS m s0).length + (mS m s).length) (mTy m (3 * c' + j) s) := rAt
            have r27 : zS103.1 0 27 = nI ((mS m s0).length + (mS m s).length + (mTy m (3 * c' + j) s).length) := r27
            have hml : (mTy m (3 * c' + j) s).length ≤ (bT (mB m) (3 * c' + j)).length * 15 := hsl
            have e27 : zS103.1 0 27 - nI ((mS m s0).length + (mS m s).length) = nI (mTy m (3 * c' + j) s).length := by rw [r27, pk_sub (by omega), Nat.add_sub_cancel_left]
            refine (g_st rfl rfl rfl rfl rfl (g_ld rfl rfl rfl (g_gi rfl rfl rfl rfl rfl (g_ld rfl rfl rfl (g_bin rfl rfl (g_c rfl rfl (g_if rfl rfl (fun zc117 => ?_) (fun zc117 => (g_c rfl rfl (g_go rfl (g_ri rfl rfl rfl ?_)))))))))))
            · rw [e27] at zc117
              have hL : (mTy m (3 * c' + j) s).length ≤ 15 := le_n (b := 15) zc117
              rw [if_pos hL]
              refine (g_ld rfl rfl rfl (g_ld rfl rfl rfl (g_ld rfl rfl rfl (g_cv rfl (s_isSuiting (a := 0) (n := (mS m s0).length + (mS m s).length + (mTy m (3 * c' + j) s).length) hI3.2.2.1 hW (wy_lt (mB m) (mK m)) hI3.2.2.2.2.1 hct0 (mTy_ct hW hct hty2) h150 hL (qAt2.congr (fun j hj => by rw [Nat.zero_add]; exact rlow _ (by omega))) rAt (by omega) (by omega) (by omega) r27) (by omega) rfl rfl rfl rfl rfl rfl rfl rfl rfl (fun zv130 zS130 zh130 => ?_)))))
              obtain ⟨rfl, hA4⟩ := zh130
              have hI4 : InvM zS130 m := hI3.sc hA4.sc
              refine (g_if rfl rfl (fun zc133 => (g_c rfl rfl (g_ri rfl rfl rfl ?_))) (fun zc133 => (g_c rfl rfl (g_go rfl (g_ri rfl rfl rfl ?_)))))
              · rw [zc133]; exact ⟨rfl, hI4⟩
              · rw [b2_t (b2_n.mp zc133)]; exact ⟨rfl, hI4⟩
            · rw [e27] at zc117
              have hL : ¬ (mTy m (3 * c' + j) s).length ≤ 15 := fun q => zc117 (nI_le (b := 15) q (by omega))
              rw [if_neg hL]
              exact ⟨rfl, hI3⟩
        · have g0 := Decidable.not_not.mp zc63
          rw [if_pos g0]
          exact ⟨rfl, h⟩
    · have g := b2_0.mp (Decidable.not_not.mp zc30)
      have b : ¬ stOk m x y z := fun q => g (by have := q.2.2; rw [e4'] at this; exact this)
      rw [if_neg b]; exact ⟨rfl, h⟩
end
