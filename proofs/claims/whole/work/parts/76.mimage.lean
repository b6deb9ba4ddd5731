/-! the reference: image, see -/
section
variable {l : Launch} {D : va_G} {ad : Nat → Nat} {cA : ClassId} {x y z w : Int32} {S S' S0 : zS} {m : Mt} {B : Bk} {kp : Kp} {n p k r q c t : Nat}
theorem KpM.cp {c1 c2 c3 c4 d1 d2 d3 d4 : Nat} {n1 n2 : Int32} (h : KpM S B c1 c2 c3 c4 n1 kp) (hB : bN B ≤ 4) (hM : ∀ k, bM B k ≤ 3) (h15 : ∀ s, s < 8 → (kp.2.1 s).length ≤ 15) (h6 : kp.2.2.length ≤ 6) (a1 : ∀ i, i < 16 → S'.1 d1 i = S.1 c1 i) (a2 : ∀ i, i < 8 → S'.1 d2 i = S.1 c2 i) (a3 : ∀ i, i < 128 → S'.1 d3 i = S.1 c3 i) (a4 : ∀ i, i < 24 → S'.1 d4 i = S.1 c4 i) (a5 : n2 = n1) : KpM S' B d1 d2 d3 d4 n2 kp := by
  obtain ⟨h1, h2, h3, h4⟩ := h
  refine ⟨fun k j hk hj => ?_, fun s hs => ⟨?_, ?_⟩, by rw [a5]; exact h3, fun i hi => ?_⟩
  · have := hM k
    rw [a1 _ (by omega)]; exact h1 k j hk hj
  · rw [a2 s hs]; exact (h2 s hs).1
  · have := h15 s hs
    exact (h2 s hs).2.congr (fun i hi => a3 _ (by omega))
  · obtain ⟨b, j, w, cd, g1, g2, g3, g4, g5, g6, g7, g8, g9, g10⟩ := h4 i hi
    exact ⟨b, j, w, cd, g1, g2, g3, g4, g5, by rw [a4 _ (by omega)]; exact g6, by rw [a4 _ (by omega)]; exact g7, by rw [a4 _ (by omega)]; exact g8, by rw [a4 _ (by omega)]; exact g9, g10⟩
theorem KpOk.l15 (h : KpOk B kp) : ∀ s, s < 8 → (kp.2.1 s).length ≤ 15 := fun s hs => by
  rcases h.2.1 s hs with q | q
  · rw [q]; simp
  · exact q.2
theorem y_image (h : InvM S m) (hm : MOk m) : Sp (l, wM, D, ad, cA) 1 m_M_image [.ref 0] S (fun v S' => v = .int (v_image m) ∧ InvM S' (m_image m)) := by
  have h4 := hm.2.2.1.1
  unfold v_image m_image
  refine Sp.of dk_M_image ok_M_image rfl (g_ld rfl rfl rfl (g_gi rfl rfl rfl rfl rfl (g_if rfl rfl (fun zc4 => ?_) (fun zc4 => (g_c rfl rfl (g_ri rfl rfl rfl ?_))))))
  · rw [h.2.2.1.1] at zc4
    have g : ¬ bN (mB m) = 0 := fun e => zc4 (by rw [e]; rfl)
    rw [if_neg g, if_neg g]
    refine (g_ld rfl rfl rfl (g_gr rfl rfl rfl rfl rfl (g_ld rfl rfl rfl (g_gr rfl rfl rfl rfl rfl (g_cs rfl (s_copyM (N := 16) rfl rfl rfl rfl (by decide) (by decide)) (by omega) rfl rfl rfl rfl rfl rfl (fun zv18 zS18 zh18 => ?_))))))
    obtain ⟨rfl, h1⟩ := zh18
    refine (g_ld rfl rfl rfl (g_gr rfl rfl rfl rfl rfl (g_ld rfl rfl rfl (g_gr rfl rfl rfl rfl rfl (g_cs rfl (s_copyM (N := 8) rfl rfl rfl rfl (by decide) (by decide)) (by omega) rfl rfl rfl rfl rfl rfl (fun zv29 zS29 zh29 => ?_))))))
    obtain ⟨rfl, h2⟩ := zh29
    refine (g_ld rfl rfl rfl (g_gr rfl rfl rfl rfl rfl (g_ld rfl rfl rfl (g_gr rfl rfl rfl rfl rfl (g_cs rfl (s_copyM (N := 128) rfl rfl rfl rfl (by decide) (by decide)) (by omega) rfl rfl rfl rfl rfl rfl (fun zv40 zS40 zh40 => ?_))))))
    obtain ⟨rfl, h3⟩ := zh40
    refine (g_ld rfl rfl rfl (g_gr rfl rfl rfl rfl rfl (g_ld rfl rfl rfl (g_gr rfl rfl rfl rfl rfl (g_cs rfl (s_copyM (N := 24) rfl rfl rfl rfl (by decide) (by decide)) (by omega) rfl rfl rfl rfl rfl rfl (fun zv51 zS51 zh51 => ?_))))))
    obtain ⟨rfl, h5⟩ := zh51
    refine (g_ld rfl rfl rfl (g_ld rfl rfl rfl (g_gi rfl rfl rfl rfl rfl (g_pi rfl rfl rfl rfl rfl rfl rfl (g_ld rfl rfl rfl (g_ld rfl rfl rfl (g_gi rfl rfl rfl rfl rfl (g_pi rfl rfl rfl rfl rfl rfl rfl ?_))))))))
    have hA : Am [23, 24, 25, 26] [] S zS51 := by
      subst h5
      subst h3
      subst h2
      subst h1
      exact (((Am.rf.uf (by decide) (by decide)).uf (by decide) (by decide)).uf (by decide) (by decide)).uf (by decide) (by decide)
    have a1 : ∀ i, i < 16 → zS51.1 23 i = S.1 11 i := fun i hi => by rw [h5, uf_ne (by decide), h3, uf_ne (by decide), h2, uf_ne (by decide), h1, uf_at, cpyF_at hi]
    have a2 : ∀ i, i < 8 → zS51.1 24 i = S.1 12 i := fun i hi => by rw [h5, uf_ne (by decide), h3, uf_ne (by decide), h2, uf_at, cpyF_at hi, h1, uf_ne (by decide)]
    have a3 : ∀ i, i < 128 → zS51.1 25 i = S.1 13 i := fun i hi => by rw [h5, uf_ne (by decide), h3, uf_at, cpyF_at hi, h2, uf_ne (by decide), h1, uf_ne (by decide)]
    have a4 : ∀ i, i < 24 → zS51.1 26 i = S.1 22 i := fun i hi => by rw [h5, uf_at, cpyF_at hi, h3, uf_ne (by decide), h2, uf_ne (by decide), h1, uf_ne (by decide)]
    have f34 : zS51.1 0 34 = S.1 0 34 := hA.2.1 34 (by decide)
    have f11 : zS51.1 0 11 = S.1 0 11 := hA.2.1 11 (by decide)
    have hA2 : Am [23, 24, 25, 26] [37, 38] S (z_ui (z_ui zS51 0 38 (zS51.1 0 34)) 0 37 ((z_ui zS51 0 38 (zS51.1 0 34)).1 0 11)) := ((hA.mono (by simp) (by simp)).fd (by decide)).fd (by decide)
    have hI : InvM (z_ui (z_ui zS51 0 38 (zS51.1 0 34)) 0 37 ((z_ui zS51 0 38 (zS51.1 0 34)).1 0 11)) (mP m, mB m, mN m, some (mN m), mR m, mH m) := by
      obtain ⟨g1, g2, g3, g4, g5, g6, g7, g8, g9⟩ := h
      refine ⟨by rw [hA2.2.1 1 (by decide)]; exact g1, by rw [hA2.1 1 (by decide) (by decide)]; exact g2, g3.ag (hA2.2.1 _ (by decide)) (hA2.1 _ (by decide) (by decide)) (hA2.1 _ (by decide) (by decide)) (hA2.1 _ (by decide) (by decide)) (hA2.1 _ (by decide) (by decide)) (hA2.1 _ (by decide) (by decide)), g4.ag (hA2.1 _ (by decide) (by decide)) (hA2.1 _ (by decide) (by decide)) (hA2.1 _ (by decide) (by decide)) (hA2.1 _ (by decide) (by decide)) (hA2.2.1 _ (by decide)), by rw [hA2.1 14 (by decide) (by decide)]; exact g5, by rw [hA2.2.1 22 (by decide)]; exact g6, ⟨?_, ?_⟩, by rw [hA2.2.1 11 (by decide)]; exact g8, by rw [hA2.2.1 32 (by decide)]; exact g9⟩
      · rw [ui_at, pk_us, ui_at, pk_un (by decide), f11]; exact g8
      · refine KpM.cp g4 h4 hm.2.2.1.2.2.2.1 hm.2.2.2.1.l15 hm.2.2.2.1.2.2.1 (fun i hi => ?_) (fun i hi => ?_) (fun i hi => ?_) (fun i hi => ?_) ?_
        · rw [ui_ne (by decide), ui_ne (by decide)]; exact a1 i hi
        · rw [ui_ne (by decide), ui_ne (by decide)]; exact a2 i hi
        · rw [ui_ne (by decide), ui_ne (by decide)]; exact a3 i hi
        · rw [ui_ne (by decide), ui_ne (by decide)]; exact a4 i hi
        · rw [ui_at, pk_un (by decide), ui_at, pk_us, f34]
    have hm2 : MOk (mP m, mB m, mN m, some (mN m), mR m, mH m) := ⟨hm.1, hm.2.1, hm.2.2.1, hm.2.2.2.1, fun k hk => by cases hk; exact ⟨hm.2.2.2.1, by show 0 < bN (mB m); omega⟩, hm.2.2.2.2.2⟩
    refine (g_ld rfl rfl rfl (g_cv rfl (s_slotsUsed hI hm2) (by omega) rfl rfl rfl rfl rfl rfl rfl rfl rfl (z_k1 (g_ri rfl rfl rfl ?_))))
    exact ⟨rfl, hI⟩
  · rw [h.2.2.1.1] at zc4
    have g : bN (mB m) = 0 := eq_n (b := 0) (Decidable.not_not.mp zc4)
    rw [if_pos g, if_pos g]
    exact ⟨rfl, h⟩
theorem in02 {x : Int32} : (0 ≤ x ∧ x ≤ 2) ↔ (0 ≤ x ∧ x < 3) := by
  have := le_pred (x := x) (k := 3) (by omega)
  rw [show nI 3 - 1 = (2 : Int32) by decide] at this
  exact this
theorem y_see (h : InvM S m) (hm : MOk m) (hw : w = 0 ∨ w = 1) : Sp (l, wM, D, ad, cA) 3 m_M_see [.ref 0, .int x, .int y, .int z, .int w] S (fun v S' => v = .int (v_see m x y z) ∧ InvM S' (m_see m x y z w)) := by
  have h6 := hm.2.2.2.1.2.2.1
  have hE : S.1 0 34 = nI (mE m).length := h.2.2.2.1.2.2.1
  have h6' : (mE m).length ≤ 6 := h6
  unfold v_see m_see
  refine Sp.of dk_M_see ok_M_see rfl (g_ld rfl rfl rfl (g_ld rfl rfl rfl (g_ld rfl rfl rfl (g_cv rfl (s_isMemberOf h hm) (by omega) rfl rfl rfl rfl rfl rfl rfl rfl rfl (z_k1 (g_if rfl rfl (fun zc6 => (g_ld rfl rfl rfl (g_un rfl rfl (g_c rfl rfl (g_c rfl rfl (g_cs rfl (s_inE (lo := 0) (hi := 2) rfl rfl) (by omega) rfl rfl rfl rfl rfl rfl (z_k1 (g_if rfl rfl (fun zc21 => (g_ld rfl rfl rfl (g_gi rfl rfl rfl rfl rfl (g_c rfl rfl (g_if rfl rfl (fun zc33 => ?_) (fun zc33 => (g_c rfl rfl (g_ri rfl rfl rfl ?_)))))))) (fun zc21 => (g_c rfl rfl (g_ri rfl rfl rfl ?_))))))))))) (fun zc6 => (g_c rfl rfl (g_ri rfl rfl rfl ?_)))))))))
  · have a := b2_n.mp zc6
    have b := b2_n.mp zc21
    have c : ¬ (mE m).length = 6 := fun e => zc33 (by rw [hE, e]; rfl)
    rw [if_pos a, if_pos a, if_pos b, if_pos b, if_neg c, if_neg c]
    obtain ⟨cc, j, hc, hc4, hj, hj3, e1, e2, -, -, -⟩ := kd_at h hm a
    obtain ⟨zz, hz, ez, ez2⟩ := in_cl (n := 3) (in02.mp b).1 (in02.mp b).2
    obtain ⟨cd, hcd, ew⟩ : ∃ cd, cd < 2 ∧ w = nI cd := by
      rcases hw with e | e
      · exact ⟨0, by omega, e⟩
      · exact ⟨1, by omega, e⟩
    generalize hn : (mE m).length = n at *
    have p0 : 4 * S.1 0 34 = nI (4 * n) := by rw [hE, show (4 : Int32) = nI 4 from rfl, pk_mul]
    have key : ∀ (T : zS), T.1 = (z_ui (z_ui (z_ui (z_ui (z_ui S 22 (4 * n) x) 22 (4 * n + 1) y) 22 (4 * n + 2) z) 22 (4 * n + 3) (nI cd)) 0 34 (nI (n + 1))).1 → T.2 = S.2 → InvM T (m_now m (mK m, mS m, mE m ++ [((3 * x + y).toNatClampNeg, (mskI z.toNatClampNeg w).toNatClampNeg)])) := by
      intro T hT hT2
      have hA : Am [22] [34] S T := by
        have : Am [22] [34] S (z_ui (z_ui (z_ui (z_ui (z_ui S 22 (4 * n) x) 22 (4 * n + 1) y) 22 (4 * n + 2) z) 22 (4 * n + 3) (nI cd)) 0 34 (nI (n + 1))) := ((((Am.rf.ui (by decide) (by decide)).ui (by decide) (by decide)).ui (by decide) (by decide)).ui (by decide) (by decide)).fd (by decide)
        unfold Am at this ⊢
        rw [hT, hT2]
        exact ⟨this.1, this.2.1, rfl⟩
      have t22 : T.1 22 = upd (upd (upd (upd (S.1 22) (4 * n) x) (4 * n + 1) y) (4 * n + 2) z) (4 * n + 3) (nI cd) := by
        rw [hT, ui_ne (by decide), ui_at, ui_at, ui_at, ui_at]
      refine h.now (hA.mono (by simp) (by simp)) ⟨?_, ?_, ?_, ?_⟩ (by rw [hA.1 14 (by decide) (by decide)]; exact h.2.2.2.2.1) (by rw [hA.2.1 22 (by decide)]; exact h.2.2.2.2.2.1)
      · unfold KdM
        rw [hA.1 11 (by decide) (by decide)]
        exact h.2.2.2.1.1
      · rw [hA.1 12 (by decide) (by decide), hA.1 13 (by decide) (by decide)]
        exact h.2.2.2.1.2.1
      · rw [hT, ui_at, pk_us]
        show _ = nI (mE m ++ [_]).length
        rw [List.length_append, hn]
        rfl
      · intro i hi
        have hi : i < (mE m ++ [((3 * x + y).toNatClampNeg, (mskI z.toNatClampNeg w).toNatClampNeg)]).length := hi
        rw [List.length_append, hn] at hi
        simp only [List.length_cons, List.length_nil] at hi
        show SiM (T.1 22) (4 * i) ((mE m ++ [((3 * x + y).toNatClampNeg, (mskI z.toNatClampNeg w).toNatClampNeg)]).getD i (0, 0))
        rw [t22]
        by_cases e : i < n
        · have hold := h.2.2.2.1.2.2.2 i (by show i < (mE m).length; omega)
          have eg : (mE m ++ [((3 * x + y).toNatClampNeg, (mskI z.toNatClampNeg w).toNatClampNeg)]).getD i (0, 0) = (mE m).getD i (0, 0) := by
            rw [List.getD_eq_getElem?_getD, List.getD_eq_getElem?_getD, List.getElem?_append_left (by omega)]
          rw [eg]
          obtain ⟨b', j', w', cd', g1, g2, g3, g4, g5, g6, g7, g8, g9, g10⟩ := hold
          refine ⟨b', j', w', cd', g1, g2, g3, g4, g5, ?_, ?_, ?_, ?_, g10⟩
          · rw [pk_un (by omega), pk_un (by omega), pk_un (by omega), pk_un (by omega)]; exact g6
          · rw [pk_un (by omega), pk_un (by omega), pk_un (by omega), pk_un (by omega)]; exact g7
          · rw [pk_un (by omega), pk_un (by omega), pk_un (by omega), pk_un (by omega)]; exact g8
          · rw [pk_un (by omega), pk_un (by omega), pk_un (by omega), pk_un (by omega)]; exact g9
        · have ei : i = n := by omega
          subst ei
          have eg : (mE m ++ [((3 * x + y).toNatClampNeg, (mskI z.toNatClampNeg w).toNatClampNeg)]).getD i (0, 0) = ((3 * x + y).toNatClampNeg, (mskI z.toNatClampNeg w).toNatClampNeg) := by
            rw [List.getD_eq_getElem?_getD, List.getElem?_append_right (by omega), hn, Nat.sub_self]
            rfl
          rw [eg]
          refine ⟨cc, j, zz, cd, hc4, hj3, hz, hcd, ?_, ?_, ?_, ?_, ?_, ?_⟩
          · show (3 * x + y).toNatClampNeg = _
            rw [e1, e2, show (3 : Int32) = nI 3 from rfl, pk_mul, nI_add, nI_clamp (by omega)]
          · rw [pk_un (by omega), pk_un (by omega), pk_un (by omega), pk_us]; exact e1
          · rw [pk_un (by omega), pk_un (by omega), pk_us]; exact e2
          · rw [pk_un (by omega), pk_us]; exact ez
          · rw [pk_us]
          · show (mskI z.toNatClampNeg w).toNatClampNeg = _
            rw [ez2, ew]
    have u : ∀ (T : zS) (i : Nat) (x : Int32), (z_ui T 22 i x).1 0 34 = T.1 0 34 := fun T i x => by rw [ui_ne (by decide)]
    have i0 : (nI (4 * n)).toNatClampNeg = 4 * n := nI_clamp (by omega)
    have i1 : (nI (4 * n) + 1).toNatClampNeg = 4 * n + 1 := by rw [← nI_succ, nI_clamp (by omega)]
    have i2 : (nI (4 * n) + 2).toNatClampNeg = 4 * n + 2 := by rw [show (2 : Int32) = nI 2 from rfl, nI_add, nI_clamp (by omega)]
    have i3 : (nI (4 * n) + 3).toNatClampNeg = 4 * n + 3 := by rw [show (3 : Int32) = nI 3 from rfl, nI_add, nI_clamp (by omega)]
    have q3 : vp_in (nI (4 * n) + 3) 24 := by rw [show (3 : Int32) = nI 3 from rfl, nI_add]; exact vp_in_nI (show 4 * n + 3 < 24 by omega) (by decide)
    refine (g_ld rfl rfl rfl (g_gr rfl rfl rfl rfl rfl (g_c rfl rfl (g_ld rfl rfl rfl (g_gi rfl rfl rfl rfl rfl (g_bin rfl rfl (g_ld rfl rfl rfl (g_ast rfl rfl rfl ?_ (g_ld rfl rfl rfl (g_gr rfl rfl rfl rfl rfl (g_c rfl rfl (g_ld rfl rfl rfl (g_gi rfl rfl rfl rfl rfl (g_bin rfl rfl (g_c rfl rfl (g_bin rfl rfl (g_ld rfl rfl rfl (g_ast rfl rfl rfl ?_ (g_ld rfl rfl rfl (g_gr rfl rfl rfl rfl rfl (g_c rfl rfl (g_ld rfl rfl rfl (g_gi rfl rfl rfl rfl rfl (g_bin rfl rfl (g_c rfl rfl (g_bin rfl rfl (g_ld rfl rfl rfl (g_ast rfl rfl rfl ?_ (g_ld rfl rfl rfl (g_gr rfl rfl rfl rfl rfl (g_c rfl rfl (g_ld rfl rfl rfl (g_gi rfl rfl rfl rfl rfl (g_bin rfl rfl (g_c rfl rfl (g_bin rfl rfl (g_ld rfl rfl rfl (g_if rfl rfl (fun zc93 => (g_c rfl rfl (g_ast rfl rfl rfl ?_ ?_))) (fun zc93 => (g_c rfl rfl (g_go rfl (g_ast rfl rfl rfl ?_ ?_))))))))))))))))))))))))))))))))))))))))))
    · rw [p0]; exact vp_in_nI (show 4 * n < 24 by omega) (by decide)
    · rw [ui_ne (by decide), p0, ← nI_succ]; exact vp_in_nI (show 4 * n + 1 < 24 by omega) (by decide)
    · rw [ui_ne (by decide), ui_ne (by decide), p0, show (2 : Int32) = nI 2 from rfl, nI_add]; exact vp_in_nI (show 4 * n + 2 < 24 by omega) (by decide)
    · simp only [u, p0]; exact q3
    · have ec : (0 : Int32) = nI cd := by rw [← ew]; exact zc93.symm
      simp only [u, p0, i0, i1, i2, i3]
      refine (g_ld rfl rfl rfl (g_dup rfl rfl (g_gi rfl rfl rfl rfl rfl (g_c rfl rfl (g_bin rfl rfl (g_pi rfl rfl rfl rfl rfl rfl rfl (g_ld rfl rfl rfl (g_gi rfl rfl rfl rfl rfl (g_ri rfl rfl rfl ?_)))))))))
      rw [u, u, u, u, hE, ec, ← nI_succ]
      exact ⟨by rw [ui_at, pk_us], key _ rfl rfl⟩
    · simp only [u, p0]; exact q3
    · have ec : (1 : Int32) = nI cd := by
        rcases hw with e | e
        · exact absurd e zc93
        · rw [← ew]; exact e.symm
      simp only [u, p0, i0, i1, i2, i3]
      refine (g_ld rfl rfl rfl (g_dup rfl rfl (g_gi rfl rfl rfl rfl rfl (g_c rfl rfl (g_bin rfl rfl (g_pi rfl rfl rfl rfl rfl rfl rfl (g_ld rfl rfl rfl (g_gi rfl rfl rfl rfl rfl (g_ri rfl rfl rfl ?_)))))))))
      rw [u, u, u, u, hE, ← nI_succ, ec]
      exact ⟨by rw [ui_at, pk_us], key _ rfl rfl⟩
  · have a := b2_n.mp zc6
    have b := b2_n.mp zc21
    have c : (mE m).length = 6 := by
      have := Decidable.not_not.mp zc33
      rw [hE] at this
      exact eq_n (b := 6) this
    rw [if_pos a, if_pos a, if_pos b, if_pos b, if_pos c, if_pos c]
    exact ⟨rfl, h⟩
  · have a := b2_n.mp zc6
    have b := b2_0.mp (Decidable.not_not.mp zc21)
    rw [if_pos a, if_pos a, if_neg b, if_neg b]
    exact ⟨rfl, h⟩
  · have a := b2_0.mp (Decidable.not_not.mp zc6)
    rw [if_neg a, if_neg a]
    exact ⟨rfl, h⟩
end
