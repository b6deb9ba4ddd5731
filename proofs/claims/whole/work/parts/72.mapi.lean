/-! the reference: letter, blank, forget, rounds, as, sign -/
theorem le_pred {x : Int32} {k : Nat} (hk : k < 2 ^ 31) : (0 ≤ x ∧ x ≤ nI k - 1) ↔ (0 ≤ x ∧ x < nI k) := by
  cases k with
  | zero =>
    constructor
    · rintro ⟨h1, h2⟩
      exact absurd (Int32.le_trans h1 h2) (by decide)
    · rintro ⟨h1, h2⟩
      exact absurd (Int32.lt_of_le_of_lt h1 h2) (by decide)
  | succ k =>
    rw [show nI (k + 1) - 1 = nI k by rw [nI_succ, Int32.add_sub_cancel]]
    have e1 : (nI (k + 1)).toInt = ((k + 1 : Nat) : Int) := nI_toInt hk
    have e2 : (nI k).toInt = (k : Int) := nI_toInt (by omega)
    rw [Int32.le_iff_toInt_le (x := x), Int32.lt_iff_toInt_lt, e1, e2]
    constructor
    · rintro ⟨h1, h2⟩; exact ⟨h1, by omega⟩
    · rintro ⟨h1, h2⟩; exact ⟨h1, by omega⟩
theorem b2_iff {P Q : Prop} [Decidable P] [Decidable Q] (h : P ↔ Q) : b2 P = b2 Q := by
  by_cases p : P
  · rw [b2_t p, b2_t (h.mp p)]
  · rw [b2_f p, b2_f (fun q => p (h.mpr q))]
section
variable {l : Launch} {D : va_G} {ad : Nat → Nat} {cA : ClassId} {x y z w : Int32} {S S' S0 : zS} {m : Mt} {B : Bk} {n p k r q c : Nat}
theorem InvM.page {t : List Nat} (h : InvM S m) (hA : Am [1] [1] S S') (h1 : S'.1 0 1 = nI t.length) (h2 : At (S'.1 1) 0 t) : InvM S' (m_page m t) := by
  obtain ⟨-, -, h3, h4, h5, h6, h7, h8, h9⟩ := h
  refine ⟨h1, h2, h3.ag (hA.2.1 _ (by decide)) (hA.1 _ (by decide) (by decide)) (hA.1 _ (by decide) (by decide)) (hA.1 _ (by decide) (by decide)) (hA.1 _ (by decide) (by decide)) (hA.1 _ (by decide) (by decide)), h4.ag (hA.1 _ (by decide) (by decide)) (hA.1 _ (by decide) (by decide)) (hA.1 _ (by decide) (by decide)) (hA.1 _ (by decide) (by decide)) (hA.2.1 _ (by decide)), by rw [hA.1 14 (by decide) (by decide)]; exact h5, by rw [hA.2.1 22 (by decide)]; exact h6, ?_, by rw [hA.2.1 11 (by decide)]; exact h8, by rw [hA.2.1 32 (by decide)]; exact h9⟩
  show match mI m with
  | none => S'.1 0 37 = -1 ∨ ∃ r, r < mR m ∧ S'.1 0 37 = nI r
  | some k => S'.1 0 37 = nI (mR m) ∧ KpM S' (mB m) 23 24 25 26 (S'.1 0 38) k
  rw [hA.2.1 37 (by decide)]
  cases hI : mI m with
  | none => rw [hI] at h7; exact h7
  | some k =>
    rw [hI] at h7
    exact ⟨h7.1, h7.2.ag (hA.1 _ (by decide) (by decide)) (hA.1 _ (by decide) (by decide)) (hA.1 _ (by decide) (by decide)) (hA.1 _ (by decide) (by decide)) (hA.2.1 _ (by decide))⟩
theorem i_in127 {x : Int32} (h1 : 1 ≤ x) (h2 : x ≤ 126) : x = nI x.toNatClampNeg := by
  obtain ⟨j, hj, e1, e2⟩ := in_cl (x := x) (n := 127) (by
    have := Int32.le_iff_toInt_le.mp h1
    rw [Int32.le_iff_toInt_le]
    have a : (1 : Int32).toInt = 1 := by decide
    have b : (0 : Int32).toInt = 0 := by decide
    omega) (by
    have := Int32.le_iff_toInt_le.mp h2
    rw [Int32.lt_iff_toInt_lt]
    have a : (126 : Int32).toInt = 126 := by decide
    have b : (Int32.ofNat 127).toInt = 127 := by decide
    omega)
  rw [e2]; exact e1
theorem y_letter (h : InvM S m) (hm : MOk m) : Sp (l, wM, D, ad, cA) 1 m_M_letter [.ref 0, .int x] S (fun v S' => v = .int (v_letter m x) ∧ InvM S' (m_letter m x)) := by
  have h90 := hm.1
  unfold v_letter m_letter
  refine Sp.of dk_M_letter ok_M_letter rfl (g_ld rfl rfl rfl (g_un rfl rfl (g_c rfl rfl (g_c rfl rfl (g_cs rfl (s_inE (lo := 1) (hi := 126) rfl rfl) (by omega) rfl rfl rfl rfl rfl rfl (z_k1 (g_if rfl rfl (fun zc9 => (g_ld rfl rfl rfl (g_gi rfl rfl rfl rfl rfl (g_c rfl rfl (g_if rfl rfl (fun zc21 => ?_) (fun zc21 => (g_c rfl rfl (g_ri rfl rfl rfl ?_)))))))) (fun zc9 => (g_c rfl rfl (g_ri rfl rfl rfl ?_))))))))))
  · have a := b2_n.mp zc9
    have b : ¬ (mP m).length = 90 := fun e => zc21 (by rw [h.1, e]; rfl)
    rw [if_pos a, if_pos a, if_neg b, if_neg b]
    refine (g_ld rfl rfl rfl (g_gr rfl rfl rfl rfl rfl (g_ld rfl rfl rfl (g_gi rfl rfl rfl rfl rfl (g_ld rfl rfl rfl (g_ast rfl rfl rfl ?_ (g_ld rfl rfl rfl (g_dup rfl rfl (g_gi rfl rfl rfl rfl rfl (g_c rfl rfl (g_bin rfl rfl (g_pi rfl rfl rfl rfl rfl rfl rfl (g_ld rfl rfl rfl (g_gi rfl rfl rfl rfl rfl (g_ri rfl rfl rfl ?_)))))))))))))))
    · rw [h.1]; exact vp_in_nI (by omega) (by decide)
    · rw [h.1, nI_clamp (by omega)]
      have e1 : (z_ui S 1 (mP m).length x).1 0 1 + 1 = nI ((mP m).length + 1) := by rw [ui_ne (by decide), h.1, nI_succ]
      rw [e1]
      refine ⟨by rw [ui_at, pk_us], h.page ((Am.rf.ui (by decide) (by decide)).fd (by decide)) (by rw [ui_at, pk_us]; simp) ?_⟩
      rw [ui_ne (by decide), ui_at]
      have := At.push (s := x.toNatClampNeg) h.2.1
      rw [Nat.zero_add, ← i_in127 a.1 a.2] at this
      exact this
  · have a := b2_n.mp zc9
    have b : (mP m).length = 90 := by
      have := Decidable.not_not.mp zc21
      rw [h.1] at this
      exact eq_n (b := 90) this
    rw [if_pos a, if_pos a, if_pos b, if_pos b]
    exact ⟨rfl, h⟩
  · have a := b2_0.mp (Decidable.not_not.mp zc9)
    rw [if_neg a, if_neg a]
    exact ⟨rfl, h⟩
theorem y_blank (h : InvM S m) : Sp (l, wM, D, ad, cA) 0 m_M_blank [.ref 0] S (fun v S' => v = .int (nI (mP m).length) ∧ InvM S' (m_page m [])) := by
  refine Sp.of dk_M_blank ok_M_blank rfl (g_ld rfl rfl rfl (g_gi rfl rfl rfl rfl rfl (g_st rfl rfl rfl rfl rfl (g_ld rfl rfl rfl (g_c rfl rfl (g_pi rfl rfl rfl rfl rfl rfl rfl (g_ld rfl rfl rfl (g_ri rfl rfl rfl ?_))))))))
  exact ⟨by rw [h.1], h.page (Am.rf.fd (by decide)) (by rw [ui_at, pk_us]; rfl) At.nil⟩
theorem y_rounds (h : InvM S m) (hm : MOk m) : Sp (l, wM, D, ad, cA) 0 m_M_rounds [.ref 0] S (fun v S' => v = .int (v_rounds m) ∧ S' = S) := by
  have hB := h.2.2.1.1
  have h4 := hm.2.2.1.1
  unfold v_rounds
  refine Sp.of dk_M_rounds ok_M_rounds rfl (g_ld rfl rfl rfl (g_gi rfl rfl rfl rfl rfl (g_if rfl rfl (fun zc4 => (g_ld rfl rfl rfl (g_gi rfl rfl rfl rfl rfl (g_ri rfl rfl rfl ?_)))) (fun zc4 => (g_c rfl rfl (g_go rfl (g_ri rfl rfl rfl ?_)))))))
  · rw [hB] at zc4
    rw [if_neg (fun e => zc4 (by rw [e]; rfl))]
    exact ⟨by rw [h.2.2.2.2.2.1], rfl⟩
  · rw [hB] at zc4
    rw [if_pos (eq_n (b := 0) (Decidable.not_not.mp zc4))]
    exact ⟨rfl, rfl⟩
theorem InvM.now (h : InvM S m) {k' : Kp} (hA : Am [11, 12, 13, 14, 22] [22, 34] S S') (hk : KpM S' (mB m) 11 12 13 22 (S'.1 0 34) k') (hw : ∀ j, j < 8 → S'.1 14 j = nI (wy (mB m) k'.1 j)) (hr : S'.1 0 22 = nI (rnd (mB m) k'.1)) : InvM S' (m_now m k') := by
  obtain ⟨h1, h2, h3, h4, h5, h6, h7, h8, h9⟩ := h
  refine ⟨by rw [hA.2.1 1 (by decide)]; exact h1, by rw [hA.1 1 (by decide) (by decide)]; exact h2, h3.ag (hA.2.1 _ (by decide)) (hA.1 _ (by decide) (by decide)) (hA.1 _ (by decide) (by decide)) (hA.1 _ (by decide) (by decide)) (hA.1 _ (by decide) (by decide)) (hA.1 _ (by decide) (by decide)), hk, hw, hr, ?_, by rw [hA.2.1 11 (by decide)]; exact h8, by rw [hA.2.1 32 (by decide)]; exact h9⟩
  show match mI m with
  | none => S'.1 0 37 = -1 ∨ ∃ r, r < mR m ∧ S'.1 0 37 = nI r
  | some k => S'.1 0 37 = nI (mR m) ∧ KpM S' (mB m) 23 24 25 26 (S'.1 0 38) k
  rw [hA.2.1 37 (by decide)]
  cases hI : mI m with
  | none => rw [hI] at h7; exact h7
  | some k =>
    rw [hI] at h7
    exact ⟨h7.1, h7.2.ag (hA.1 _ (by decide) (by decide)) (hA.1 _ (by decide) (by decide)) (hA.1 _ (by decide) (by decide)) (hA.1 _ (by decide) (by decide)) (hA.2.1 _ (by decide))⟩
theorem y_forget (h : InvM S m) : Sp (l, wM, D, ad, cA) 0 m_M_forget [.ref 0] S (fun v S' => v = .int (nI (mE m).length) ∧ InvM S' (m_forget m)) := by
  refine Sp.of dk_M_forget ok_M_forget rfl (g_ld rfl rfl rfl (g_gi rfl rfl rfl rfl rfl (g_st rfl rfl rfl rfl rfl (g_ld rfl rfl rfl (g_c rfl rfl (g_pi rfl rfl rfl rfl rfl rfl rfl (g_ld rfl rfl rfl (g_ri rfl rfl rfl ?_))))))))
  refine ⟨by rw [h.2.2.2.1.2.2.1]; rfl, ?_⟩
  have hA : Am [] [34] S (z_ui S 0 34 0) := Am.rf.fd (by decide)
  refine h.now (k' := (mK m, mS m, [])) (hA.mono (by simp) (by simp)) ⟨?_, ?_, by rw [ui_at, pk_us]; rfl, fun i hi => absurd hi (Nat.not_lt_zero _)⟩ (by rw [hA.1 14 (by decide) (by decide)]; exact h.2.2.2.2.1) (by rw [hA.2.1 22 (by decide)]; exact h.2.2.2.2.2.1)
  · unfold KdM
    rw [hA.1 11 (by decide) (by decide)]
    exact h.2.2.2.1.1
  · rw [hA.1 12 (by decide) (by decide), hA.1 13 (by decide) (by decide)]
    exact h.2.2.2.1.2.1
/-! which class, which member, which slot -/
theorem s_isClassM (hB : S.1 0 10 = nI n) (hn : n ≤ 4) : Sp (l, wM, D, ad, cA) 1 m_M_isClass [.ref 0, .int x] S (fun v S' => v = .int (b2 (0 ≤ x ∧ x < nI n)) ∧ S' = S) := by
  refine Sp.of dk_M_isClass ok_M_isClass rfl (g_ld rfl rfl rfl (g_un rfl rfl (g_c rfl rfl (g_ld rfl rfl rfl (g_gi rfl rfl rfl rfl rfl (g_c rfl rfl (g_bin rfl rfl (g_un rfl rfl (g_cs rfl (s_inE (lo := 0) (hi := S.1 0 10 - 1) rfl rfl) (by omega) rfl rfl rfl rfl rfl rfl (z_k1 (g_ri rfl rfl ?_ ?_)))))))))))
  · exact b2_nar
  · refine ⟨?_, rfl⟩
    rw [hB, b2_iff (le_pred (by omega))]
theorem gM_in (hm : MOk m) (hx : 0 ≤ x ∧ x < nI (bN (mB m))) : ∃ c, c < bN (mB m) ∧ x = nI c ∧ gM m x = nI (bM (mB m) c) := by
  have h4 := hm.2.2.1.1
  obtain ⟨c, hc, e1, e2⟩ := in_cl (n := bN (mB m)) hx.1 hx.2 (by omega)
  refine ⟨c, hc, e1, ?_⟩
  unfold gM
  rw [e1, if_pos (in4 (by omega)), nI_clamp (by omega)]
theorem gM_out (hm : MOk m) (hx : ¬ (0 ≤ x ∧ x < nI (bN (mB m)))) : gM m x = 0 := by
  have h4 := hm.2.2.1.1
  unfold gM
  by_cases hx4 : 0 ≤ x ∧ x < 4
  · rw [if_pos hx4]
    obtain ⟨c, hc, e1, e2⟩ := in_cl (n := 4) hx4.1 hx4.2
    rw [e2, (hm.2.2.1.2.2.1 c (Nat.le_of_not_lt (fun q => hx ⟨hx4.1, by rw [e1]; exact nI_lt q (by omega)⟩))).2]
    rfl
  · rw [if_neg hx4]
theorem s_isMemberOf (h : InvM S m) (hm : MOk m) : Sp (l, wM, D, ad, cA) 2 m_M_isMemberOf [.ref 0, .int x, .int y] S (fun v S' => v = .int (b2 (0 ≤ y ∧ y < gM m x)) ∧ S' = S) := by
  have h4 := hm.2.2.1.1
  refine Sp.of dk_M_isMemberOf ok_M_isMemberOf rfl (g_ld rfl rfl rfl (g_ld rfl rfl rfl (g_cv rfl (s_isClassM h.2.2.1.1 h4) (by omega) rfl rfl rfl rfl rfl rfl rfl rfl rfl (z_k1 (g_if rfl rfl (fun zc5 => (g_c rfl rfl (g_ri rfl rfl rfl ?_))) (fun zc5 => (g_ld rfl rfl rfl (g_un rfl rfl (g_c rfl rfl (g_ld rfl rfl rfl (g_gr rfl rfl rfl rfl rfl (g_ld rfl rfl rfl (g_ald rfl rfl rfl ?_ (g_c rfl rfl (g_bin rfl rfl (g_un rfl rfl (g_cs rfl (s_inE (lo := 0) (hi := S.1 8 x.toNatClampNeg - 1) rfl rfl) (by omega) rfl rfl rfl rfl rfl rfl (z_k1 (g_if rfl rfl (fun zc23 => (g_c rfl rfl (g_ri rfl rfl rfl ?_))) (fun zc23 => (g_c rfl rfl (g_go rfl (g_ri rfl rfl rfl ?_)))))))))))))))))))))))
  · have a := b2_0.mp zc5
    refine v_int (b2_f ?_).symm rfl
    rw [gM_out hm a]
    exact fun q => absurd (Int32.lt_of_le_of_lt q.1 q.2) (by decide)
  · have a := b2_n.mp zc5
    obtain ⟨c, hc, e1, -⟩ := gM_in hm a
    rw [e1]
    exact vp_in_nI (by omega) (by decide)
  · have a := b2_n.mp zc5
    obtain ⟨c, hc, e1, e2⟩ := gM_in hm a
    have h3 := hm.2.2.1.2.2.2.1 c
    rw [e1, nI_clamp (by omega), h.2.2.1.2.2.1 c hc] at zc23
    have b := b2_0.mp zc23
    rw [le_pred (by omega)] at b
    rw [e2]
    exact v_int (b2_f b).symm rfl
  · have a := b2_n.mp zc5
    obtain ⟨c, hc, e1, e2⟩ := gM_in hm a
    have h3 := hm.2.2.1.2.2.2.1 c
    rw [e1, nI_clamp (by omega), h.2.2.1.2.2.1 c hc] at zc23
    have b := b2_n.mp zc23
    rw [le_pred (by omega)] at b
    rw [e2]
    exact v_int (b2_t b).symm rfl
end
