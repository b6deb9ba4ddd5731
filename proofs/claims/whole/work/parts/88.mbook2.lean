/-! the reference: book -/
section
variable {l : Launch} {D : va_G} {ad : Nat → Nat} {cA : ClassId} {x y z w : Int32} {S S' S0 : zS} {m : Mt} {B : Bk} {pg t : List Nat} {n p k r c j s o : Nat} {q q' : Ps} {Q : Nat → Prop} {kd : Nat → Nat}
theorem TgM.ty {T : zS} {o : Prop} (h : TgM S pg j p t o Q) (hj : j ≤ pg.length) (hl : pg.length ≤ 90) (h126 : ∀ c ∈ pg, c ≤ 126) (hs : ∀ s ∈ t, s < 6) (h9 : T.1 9 p = S.1 5 p) (h10 : ∀ j, j < pg.length → T.1 10 j = sI (nI (pg.getD j 0))) : TyM T p t := by
  obtain ⟨st, a1, a2, a3, a4, a5⟩ := h
  refine ⟨st, by rw [h9]; exact a1, by omega, fun i hi => ?_⟩
  rw [List.length_map] at hi
  have hlt : st + i < pg.length := by omega
  have hc : pg.getD (st + i) 0 ≤ 126 := by
    rw [List.getD_eq_getElem?_getD, List.getElem?_eq_getElem hlt]
    exact h126 _ (List.getElem_mem hlt)
  have hst : t.getD i 0 < 6 := by
    rw [List.getD_eq_getElem?_getD, List.getElem?_eq_getElem hi]
    exact hs _ (List.getElem_mem hi)
  rw [h10 _ hlt, sI_eq hc hst (a4 i hi)]
  congr 1
  rw [List.getD_eq_getElem?_getD, List.getD_eq_getElem?_getD, List.getElem?_map, List.getElem?_eq_getElem hi]
  rfl
theorem wf_sg {B : Bk} (hW : WfB B) {p : Nat} (hp : p < 16) : ∀ s ∈ bT B p, s < 6 := by
  intro s hs
  rcases wf_ty hW hp with h | ⟨c, -, h⟩
  · rw [h] at hs; cases hs
  · exact sg6 hW (h.2.2 s hs)
theorem y_book (h : InvM S m) (hm : MOk m) : Sp (l, wM, D, ad, cA) 5 m_M_book [.ref 0] S (fun v S' => v = .int (v_book m) ∧ InvM S' (m_book m)) := by
  have h90 := hm.1
  unfold v_book m_book
  refine Sp.of dk_M_book ok_M_book rfl (g_ld rfl rfl rfl (g_cv rfl (s_faultOf h hm) (by omega) rfl rfl rfl rfl rfl rfl rfl rfl rfl (fun zv1 zS1 zh1 => ?_)))
  obtain ⟨rfl, hA, hRd⟩ := zh1
  rw [Nat.zero_add]
  have hsc : InvM zS1 m := h.sc hA.sc
  cases hf : fq q0 (mP m) with
  | none =>
    have hlt := fl_none _ _ hf
    have hr : rdB (mP m) = none := by unfold rdB; rw [hf]
    rw [hr]
    refine (g_ld rfl rfl rfl (g_gi rfl rfl rfl rfl rfl (g_if rfl rfl (fun zc8 => (g_c rfl rfl (g_ri rfl rfl rfl ?_))) (fun zc8 => ?_))))
    · exact ⟨rfl, hsc⟩
    · rw [hsc.1] at zc8
      exact absurd (nI_lt hlt (by omega)) zc8
  | some q =>
    have hfl := fl_some _ _ _ hf
    have hR := hRd q hf
    have hN4 := hR.1.2.1
    have hno : ¬ (qH q = 4 ∧ qN q + 1 = bN (qB q)) → rdB (mP m) = none := fun g => by unfold rdB; rw [hf]; exact if_neg g
    refine (g_ld rfl rfl rfl (g_gi rfl rfl rfl rfl rfl (g_if rfl rfl (fun zc8 => (g_c rfl rfl (g_ri rfl rfl rfl ?_))) (fun zc8 => (g_ld rfl rfl rfl (g_gi rfl rfl rfl rfl rfl (g_c rfl rfl (g_if rfl rfl (fun zc16 => (g_c rfl rfl (g_ri rfl rfl rfl ?_))) (fun zc16 => (g_ld rfl rfl rfl (g_gi rfl rfl rfl rfl rfl (g_ld rfl rfl rfl (g_gi rfl rfl rfl rfl rfl (g_c rfl rfl (g_bin rfl rfl (g_if rfl rfl (fun zc29 => ?_) (fun zc29 => (g_c rfl rfl (g_ri rfl rfl rfl ?_)))))))))))))))))))
    · rw [hsc.1, hfl] at zc8
      exact absurd zc8 (i_nl (Int32.le_refl _))
    · have hr := hno (fun g => zc16 (by rw [hR.2.1, g.1]; rfl))
      rw [hr]
      exact ⟨rfl, hsc⟩
    · have hH := hR.1.1
      have h4 : qH q = 4 := by
        have g := Decidable.not_not.mp zc16
        rw [hR.2.1] at g
        exact eq_n (b := 4) g
      have hNl : qN q < bN (qB q) := hR.1.2.2.2.2.2.1 (by omega)
      have hN : qN q + 1 = bN (qB q) := by
        have g := zc29
        rw [hR.2.2.2.1, hR.2.2.1, show (1 : Int32) = nI 1 from rfl, pk_sub (by omega)] at g
        have := eq_n g
        omega
      have hr : rdB (mP m) = some q := by unfold rdB; rw [hf]; exact if_pos ⟨h4, hN⟩
      rw [hr]
      obtain ⟨-, hQ, hW, -, -⟩ := rdB_ok hr
      have hk5 : ∀ i, qK q i < 5 := hQ.2.2.2.2.2.2.2.2.1
      have hM3 := hQ.2.2.2.2.1
      have h126 : ∀ c ∈ mP m, c ≤ 126 := fun c hc => (hm.2.1 c hc).2
      refine (g_ld rfl rfl rfl (g_ld rfl rfl rfl (g_gi rfl rfl rfl rfl rfl (g_pi rfl rfl rfl rfl rfl rfl rfl (g_ld rfl rfl rfl (g_gr rfl rfl rfl rfl rfl (g_ld rfl rfl rfl (g_gr rfl rfl rfl rfl rfl (g_cs rfl (s_copyM (N := 4) rfl rfl rfl rfl (by decide) (by decide)) (by omega) rfl rfl rfl rfl rfl rfl (fun zv51 zS51 zh51 => ?_))))))))))
      rw [hR.2.2.1] at zh51
      obtain ⟨rfl, c1⟩ := zh51
      refine (g_ld rfl rfl rfl (g_gr rfl rfl rfl rfl rfl (g_ld rfl rfl rfl (g_gr rfl rfl rfl rfl rfl (g_cs rfl (s_copyM (N := 4) rfl rfl rfl rfl (by decide) (by decide)) (by omega) rfl rfl rfl rfl rfl rfl (fun zv62 zS62 zh62 => ?_))))))
      obtain ⟨rfl, c2⟩ := zh62
      refine (g_ld rfl rfl rfl (g_gr rfl rfl rfl rfl rfl (g_ld rfl rfl rfl (g_gr rfl rfl rfl rfl rfl (g_cs rfl (s_copyM (N := 4) rfl rfl rfl rfl (by decide) (by decide)) (by omega) rfl rfl rfl rfl rfl rfl (fun zv73 zS73 zh73 => ?_))))))
      obtain ⟨rfl, c3⟩ := zh73
      refine (g_ld rfl rfl rfl (g_gr rfl rfl rfl rfl rfl (g_ld rfl rfl rfl (g_gr rfl rfl rfl rfl rfl (g_cs rfl (s_copyM (N := 16) rfl rfl rfl rfl (by decide) (by decide)) (by omega) rfl rfl rfl rfl rfl rfl (fun zv84 zS84 zh84 => ?_))))))
      obtain ⟨rfl, c4⟩ := zh84
      refine (g_c rfl rfl (g_st rfl rfl rfl rfl rfl ?_))
      have hA1 : Am [2, 3, 4, 5, 6, 7, 8, 9] [2, 3, 4, 5, 10] S zS84 := by
        have : Am [2, 3, 4, 5, 6, 7, 8, 9] [2, 3, 4, 5, 10] zS1 zS84 := by
          subst c4
          subst c3
          subst c2
          subst c1
          exact ((((Am.rf.fd (by decide)).uf (by decide) (by decide)).uf (by decide) (by decide)).uf (by decide) (by decide)).uf (by decide) (by decide)
        exact (hA.mono (by simp +contextual) (by simp +contextual)).tr this
      have d10 : zS84.1 0 10 = nI (bN (qB q)) := by rw [c4, uf_ne (by decide), c3, uf_ne (by decide), c2, uf_ne (by decide), c1, uf_ne (by decide), ui_at, pk_us]
      have d6 : ∀ i, i < 4 → zS84.1 6 i = zS1.1 2 i := fun i hi => by rw [c4, uf_ne (by decide), c3, uf_ne (by decide), c2, uf_ne (by decide), c1, uf_at, cpyF_at hi, ui_ne (by decide)]
      have d7 : ∀ i, i < 4 → zS84.1 7 i = zS1.1 3 i := fun i hi => by rw [c4, uf_ne (by decide), c3, uf_ne (by decide), c2, uf_at, cpyF_at hi, c1, uf_ne (by decide), ui_ne (by decide)]
      have d8 : ∀ i, i < 4 → zS84.1 8 i = zS1.1 4 i := fun i hi => by rw [c4, uf_ne (by decide), c3, uf_at, cpyF_at hi, c2, uf_ne (by decide), c1, uf_ne (by decide), ui_ne (by decide)]
      have d9 : ∀ i, i < 16 → zS84.1 9 i = zS1.1 5 i := fun i hi => by rw [c4, uf_at, cpyF_at hi, c3, uf_ne (by decide), c2, uf_ne (by decide), c1, uf_ne (by decide), ui_ne (by decide)]
      have e8 : ∀ k, k < bN (qB q) → zS84.1 8 k = nI (bM (qB q) k) := fun k hk => by rw [d8 k (by omega)]; exact (hR.2.2.2.2.2.2.1 k (by omega)).2
      have p1 : At (zS84.1 1) 0 (mP m) := by rw [hA1.1 1 (by decide) (by decide)]; exact h.2.1
      refine lp_bs h90 p1 (by rw [hA1.2.1 1 (by decide)]; exact h.1) (fun T2 hA2 t10 => ?_) (mP m).length 0 zS84 (by omega) Am.rf (fun j hj => absurd hj (by omega))
      refine (g_c rfl rfl (g_st rfl rfl rfl rfl rfl ?_))
      have hkat : kAt T2 (mP m) (qB q) (qK q) := fun k i hk hi => by
        have := hM3 k
        obtain ⟨st, a1, a2, a3, a4, a5, a6⟩ := hR.2.2.2.2.2.2.2.2.1 k i (by omega) hi
        refine ⟨st - 1, ?_, by omega, (kIx_yes a6).1⟩
        rw [hA2.1 9 (by decide) (by decide), d9 _ (by omega), Nat.sub_add_cancel a5]
        exact a1
      refine lp_bk hN4 hM3 h90 h126 (by rw [hA2.1 1 (by decide) (by decide)]; exact p1) hkat (by rw [hA2.1 8 (by decide) (by decide)]; exact e8) (by rw [hA2.2.1 10 (by decide)]; exact d10) (fun T3 w1 w2 hA3 hK3 => ?_) (bN (qB q)) 0 T2 _ (by omega) Am.rf (fun k' i' _ _ hlt => absurd hlt (by omega))
      refine (g_c rfl rfl (g_st rfl rfl rfl rfl rfl ?_))
      refine lp_bz (fun T4 hA4 t12 => ?_) 8 0 T3 (by omega) Am.rf (fun j hj => absurd hj (by omega))
      refine (g_ld rfl rfl rfl (g_c rfl rfl (g_pi rfl rfl rfl rfl rfl rfl rfl (g_ld rfl rfl rfl (g_dup rfl rfl (g_gi rfl rfl rfl rfl rfl (g_c rfl rfl (g_bin rfl rfl (g_pi rfl rfl rfl rfl rfl rfl rfl (g_ld rfl rfl rfl (g_c rfl rfl (g_pi rfl rfl rfl rfl rfl rfl rfl ?_))))))))))))
      have f11 : (z_ui T4 0 34 0).1 0 11 = nI (mR m) := by rw [ui_at, pk_un (by decide), hA4.2.1 11 (by decide), hA3.2.1 11 (by decide), hA2.2.1 11 (by decide), hA1.2.1 11 (by decide)]; exact h.2.2.2.2.2.2.2.1
      rw [f11, ← nI_succ]
      have kC : ∀ i, i ≠ 0 → (z_ui (z_ui (z_ui T4 0 34 0) 0 11 (nI (mR m + 1))) 0 1 0).1 i = T4.1 i := fun i hi => by rw [ui_ne hi, ui_ne hi, ui_ne hi]
      have k4 : ∀ i, i ≠ 0 → i ≠ 10 → i ≠ 11 → i ≠ 12 → T4.1 i = zS84.1 i := fun i g0 g1 g2 g3 => by rw [hA4.1 i g0 (by simp [g3]), hA3.1 i g0 (by simp [g2]), hA2.1 i g0 (by simp [g1])]
      have f4 : ∀ j, T4.1 0 j = zS84.1 0 j := fun j => by rw [hA4.2.1 j (by simp), hA3.2.1 j (by simp), hA2.2.1 j (by simp)]
      have t10' : ∀ j, j < (mP m).length → (z_ui (z_ui (z_ui T4 0 34 0) 0 11 (nI (mR m + 1))) 0 1 0).1 10 j = sI (nI ((mP m).getD j 0)) := by
        rw [kC 10 (by decide), hA4.1 10 (by decide) (by decide), hA3.1 10 (by decide) (by decide)]
        exact t10
      have hB5 : BkM (z_ui (z_ui (z_ui T4 0 34 0) 0 11 (nI (mR m + 1))) 0 1 0) (qB q) := by
        refine ⟨?_, fun k hk => ?_, fun k hk => ?_, fun k hk => ?_, fun k hk hne => ?_, fun k i hk hi => ?_⟩
        · rw [ui_at, pk_un (by decide), ui_at, pk_un (by decide), ui_at, pk_un (by decide), f4]; exact d10
        · rw [kC 6 (by decide), k4 6 (by decide) (by decide) (by decide) (by decide), d6 k (by omega)]; exact hR.2.2.2.2.2.1 k hk
        · rw [kC 8 (by decide), k4 8 (by decide) (by decide) (by decide) (by decide)]; exact e8 k hk
        · rw [kC 7 (by decide), k4 7 (by decide) (by decide) (by decide) (by decide), d7 k (by omega)]; exact (hR.2.2.2.2.2.2.1 k (by omega)).1
        · refine (hR.2.2.2.2.2.2.2.1 k (by omega) hne).ty (Nat.le_refl _) h90 h126 (wf_sg hW (by omega)) ?_ t10'
          rw [kC 9 (by decide), k4 9 (by decide) (by decide) (by decide) (by decide), d9 _ (by omega)]
        · have := hM3 k
          refine (hR.2.2.2.2.2.2.2.2.1 k i (by omega) hi).ty (Nat.le_refl _) h90 h126 (wf_sg hW (by omega)) ?_ t10'
          rw [kC 9 (by decide), k4 9 (by decide) (by decide) (by decide) (by decide), d9 _ (by omega)]
      have hK5 : KdM (z_ui (z_ui (z_ui T4 0 34 0) 0 11 (nI (mR m + 1))) 0 1 0) 11 (qB q) (qK q) := by
        unfold KdM
        rw [kC 11 (by decide), hA4.1 11 (by decide) (by decide)]
        exact hK3
      refine (g_ld rfl rfl rfl (g_cv rfl (s_layWays hB5 hW hK5 hk5) (by omega) rfl rfl rfl rfl rfl rfl rfl rfl rfl (fun zv226 zS226 zh226 => ?_)))
      obtain ⟨rfl, hA5, hw5, hr5⟩ := zh226
      refine (g_ld rfl rfl rfl (g_gi rfl rfl rfl rfl rfl (g_ri rfl rfl rfl ?_)))
      have g0 : ∀ j, j ≠ 22 → j ≠ 24 → j ≠ 25 → zS226.1 0 j = (z_ui (z_ui (z_ui T4 0 34 0) 0 11 (nI (mR m + 1))) 0 1 0).1 0 j := fun j e1 e2 e3 => hA5.2.1 j (by simp [e1, e2, e3])
      refine ⟨?_, ?_⟩
      · rw [g0 10 (by decide) (by decide) (by decide), hB5.1]
      · refine ⟨?_, At.nil, hB5.ag (hA5.2.1 _ (by decide)) (hA5.1 _ (by decide) (by decide)) (hA5.1 _ (by decide) (by decide)) (hA5.1 _ (by decide) (by decide)) (hA5.1 _ (by decide) (by decide)) (hA5.1 _ (by decide) (by decide)), ⟨?_, fun s hs => ⟨?_, At.nil⟩, ?_, fun i hi => absurd hi (Nat.not_lt_zero _)⟩, hw5, hr5, ?_, ?_, ?_⟩
        · rw [g0 1 (by decide) (by decide) (by decide), ui_at, pk_us]; rfl
        · unfold KdM
          rw [hA5.1 11 (by decide) (by decide)]
          exact hK5
        · rw [hA5.1 12 (by decide) (by decide), kC 12 (by decide)]; exact t12 s hs
        · rw [g0 34 (by decide) (by decide) (by decide), ui_at, pk_un (by decide), ui_at, pk_un (by decide), ui_at, pk_us]; rfl
        · have e37 : zS226.1 0 37 = S.1 0 37 := by rw [g0 37 (by decide) (by decide) (by decide), ui_at, pk_un (by decide), ui_at, pk_un (by decide), ui_at, pk_un (by decide), f4, hA1.2.1 37 (by decide)]
          show zS226.1 0 37 = -1 ∨ ∃ r, r < mR m + 1 ∧ zS226.1 0 37 = nI r
          rw [e37]
          have h7 := h.2.2.2.2.2.2.1
          cases hI : mI m with
          | none =>
            rw [hI] at h7
            rcases h7 with z | ⟨r, z1, z2⟩
            · exact Or.inl z
            · exact Or.inr ⟨r, by omega, z2⟩
          | some kk =>
            rw [hI] at h7
            exact Or.inr ⟨mR m, by omega, h7.1⟩
        · rw [g0 11 (by decide) (by decide) (by decide), ui_at, pk_un (by decide), ui_at, pk_us]; rfl
        · rw [g0 32 (by decide) (by decide) (by decide), ui_at, pk_un (by decide), ui_at, pk_un (by decide), ui_at, pk_un (by decide), f4, hA1.2.1 32 (by decide)]
          exact h.2.2.2.2.2.2.2.2
    · have hr := hno (fun g => zc29 (by
        rw [hR.2.2.2.1, hR.2.2.1, ← g.2, nI_succ, Int32.add_sub_cancel]))
      rw [hr]
      exact ⟨rfl, hsc⟩
end
