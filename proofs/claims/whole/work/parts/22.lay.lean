/-! lay; slots -/
section
variable {l : Launch} {D : va_G} {ad : Nat → Nat} {cA : ClassId} {d r q n : Nat} {x z : Int32} {S S0 : zS} {B : Bk} {V kd : Nat → Nat}
theorem row_at {S : zS} {t : List Nat} (h : RowR S r t) {i : Nat} (hi : i < t.length) : f_row S r (nI i) = nI (t.getD i 0) := by
  unfold f_row
  have := h.2.1
  rw [if_pos (in15 (k := i) (by omega)), nI_clamp (by omega)]
  simpa using h.2.2 i hi
theorem take_s {t : List Nat} {i : Nat} (h : i < t.length) : t.take (i + 1) = t.take i ++ [t.getD i 0] := by
  rw [List.take_add_one, List.getD_eq_getElem?_getD, List.getElem?_eq_getElem h]
  rfl
def lyPost (S0 : zS) (fr : Nat) (t : List Nat) : Value → zS → Prop := fun v S' => v = .null ∧ Ag [41] S0 S' ∧ At (S'.1 41) fr t ∧ ∀ j, ¬ (fr ≤ j ∧ j < fr + t.length) → S'.1 41 j = S0.1 41 j
theorem lp_lay (hr : r = 38 ∨ r = 43) {t : List Nat} {fr : Nat} (hR : RowR S0 r t) (hfr : fr ≤ 19) : ∀ (k i : Nat) (S : zS), t.length - i = k → i ≤ t.length → Ag [41] S0 S → At (S.1 41) fr (t.take i) → (∀ j, ¬ (fr ≤ j ∧ j < fr + t.length) → S.1 41 j = S0.1 41 j) → Go (l, wX, D, ad, cA) 1 m_Fit_lay (lyPost S0 fr t) 2 [some (.ref 40), some (.ref r), some (.int (nI fr)), some (.int (nI i))] [] S := by
  have h15 := hR.2.1
  rcases hr with rfl | rfl
  · intro k
    induction k using Nat.strongRecOn with
    | ind k ih =>
      intro i S hk hi hA hAt hout
      have hR2 : RowR S 38 t := by
        refine ⟨by rw [hA.1 _ (by decide)]; exact hR.1, h15, ?_⟩
        rw [hA.1 _ (by decide)]
        exact hR.2.2
      have ef : nI fr + nI i = nI (fr + i) := nI_add fr i
      refine (g_ld rfl rfl rfl (g_ld rfl rfl rfl (g_gi rfl rfl rfl rfl rfl (g_if rfl rfl (fun zc7 => (g_rv rfl rfl ?_)) (fun zc7 => (g_ld rfl rfl rfl (g_ld rfl rfl rfl (g_bin rfl rfl (g_ld rfl rfl rfl (g_gr rfl rfl rfl rfl rfl (g_len rfl rfl rfl (g_if rfl rfl (fun zc18 => (g_rv rfl rfl ?_)) (fun zc18 => (g_ld rfl rfl rfl (g_gr rfl rfl rfl rfl rfl (g_ld rfl rfl rfl (g_ld rfl rfl rfl (g_bin rfl rfl (g_ld rfl rfl rfl (g_ld rfl rfl rfl (g_cv rfl (s_rsignAt (by decide)) (by omega) rfl rfl rfl rfl rfl rfl rfl rfl rfl (z_k1 (g_ast rfl rfl rfl ?_ (g_inc rfl rfl rfl rfl (g_go rfl ?_)))))))))))))))))))))))))
      · rw [hR2.1] at zc7
        have := le_n zc7
        rw [List.take_of_length_le (by omega)] at hAt
        exact ⟨rfl, hA, hAt, hout⟩
      · rw [hR2.1] at zc7
        have h1 := nle_n zc7
        rw [ef] at zc18
        have := le_n (a := 34) zc18
        omega
      · rw [hR2.1] at zc7
        have h1 := nle_n zc7
        rw [ef]
        exact vp_in_nI (by omega) (by omega)
      · rw [hR2.1] at zc7
        have h1 := nle_n zc7
        rw [ef, nI_clamp (by omega), row_at hR2 h1]
        have hl : (t.take i).length = i := by simp; omega
        have := ih _ (by omega) (i + 1) (z_ui S 41 (fr + i) (nI (t.getD i 0))) rfl h1 (hA.ui (by decide)) (by
          rw [take_s h1, ui_at]
          have := At.push (s := t.getD i 0) hAt
          rw [hl] at this
          exact this) (fun j hj => by
          rw [ui_at, pk_un (by omega)]
          exact hout j hj)
        rw [nI_succ i] at this
        exact this
  · intro k
    induction k using Nat.strongRecOn with
    | ind k ih =>
      intro i S hk hi hA hAt hout
      have hR2 : RowR S 43 t := by
        refine ⟨by rw [hA.1 _ (by decide)]; exact hR.1, h15, ?_⟩
        rw [hA.1 _ (by decide)]
        exact hR.2.2
      have ef : nI fr + nI i = nI (fr + i) := nI_add fr i
      refine (g_ld rfl rfl rfl (g_ld rfl rfl rfl (g_gi rfl rfl rfl rfl rfl (g_if rfl rfl (fun zc7 => (g_rv rfl rfl ?_)) (fun zc7 => (g_ld rfl rfl rfl (g_ld rfl rfl rfl (g_bin rfl rfl (g_ld rfl rfl rfl (g_gr rfl rfl rfl rfl rfl (g_len rfl rfl rfl (g_if rfl rfl (fun zc18 => (g_rv rfl rfl ?_)) (fun zc18 => (g_ld rfl rfl rfl (g_gr rfl rfl rfl rfl rfl (g_ld rfl rfl rfl (g_ld rfl rfl rfl (g_bin rfl rfl (g_ld rfl rfl rfl (g_ld rfl rfl rfl (g_cv rfl (s_rsignAt (by decide)) (by omega) rfl rfl rfl rfl rfl rfl rfl rfl rfl (z_k1 (g_ast rfl rfl rfl ?_ (g_inc rfl rfl rfl rfl (g_go rfl ?_)))))))))))))))))))))))))
      · rw [hR2.1] at zc7
        have := le_n zc7
        rw [List.take_of_length_le (by omega)] at hAt
        exact ⟨rfl, hA, hAt, hout⟩
      · rw [hR2.1] at zc7
        have h1 := nle_n zc7
        rw [ef] at zc18
        have := le_n (a := 34) zc18
        omega
      · rw [hR2.1] at zc7
        have h1 := nle_n zc7
        rw [ef]
        exact vp_in_nI (by omega) (by omega)
      · rw [hR2.1] at zc7
        have h1 := nle_n zc7
        rw [ef, nI_clamp (by omega), row_at hR2 h1]
        have hl : (t.take i).length = i := by simp; omega
        have := ih _ (by omega) (i + 1) (z_ui S 41 (fr + i) (nI (t.getD i 0))) rfl h1 (hA.ui (by decide)) (by
          rw [take_s h1, ui_at]
          have := At.push (s := t.getD i 0) hAt
          rw [hl] at this
          exact this) (fun j hj => by
          rw [ui_at, pk_un (by omega)]
          exact hout j hj)
        rw [nI_succ i] at this
        exact this
theorem s_lay (hr : r = 38 ∨ r = 43) {t : List Nat} {fr : Nat} (hR : RowR S r t) (hfr : fr ≤ 19) (hx : x = nI fr) : Sp (l, wX, D, ad, cA) 1 m_Fit_lay [.ref 40, .ref r, .int x] S (lyPost S fr t) := by
  subst hx
  have key := lp_lay (l := l) (D := D) (ad := ad) (cA := cA) hr hR hfr _ 0 S rfl (Nat.zero_le _) Ag.rf At.nil (fun _ _ => rfl)
  rcases hr with rfl | rfl
  all_goals
    refine Sp.of dk_Fit_lay ok_Fit_lay rfl (g_c rfl rfl (g_st rfl rfl rfl rfl rfl ?_))
    exact key
theorem s_layOne (hr : r = 38 ∨ r = 43) {t : List Nat} (hR : RowR S r t) : Sp (l, wX, D, ad, cA) 2 m_Fit_layOne [.ref 40, .ref r] S (lyPost S 4 t) := by
  have hr0 := hr
  rcases hr with rfl | rfl
  all_goals
    refine Sp.of dk_Fit_layOne ok_Fit_layOne rfl (g_ld rfl rfl rfl (g_ld rfl rfl rfl (g_c rfl rfl (g_cv rfl (s_lay hr0 (fr := 4) hR (by omega) rfl) (by omega) rfl rfl rfl rfl rfl rfl rfl rfl rfl (fun zv3 zS3 zh3 => ?_)))))
    obtain ⟨rfl, h⟩ := zh3
    refine (g_rv rfl rfl ?_)
    exact ⟨rfl, h⟩
theorem s_layOther (hr : r = 38 ∨ r = 43) {t : List Nat} (hR : RowR S r t) : Sp (l, wX, D, ad, cA) 2 m_Fit_layOther [.ref 40, .ref r] S (lyPost S 19 t) := by
  have hr0 := hr
  rcases hr with rfl | rfl
  all_goals
    refine Sp.of dk_Fit_layOther ok_Fit_layOther rfl (g_ld rfl rfl rfl (g_ld rfl rfl rfl (g_c rfl rfl (g_cv rfl (s_lay hr0 (fr := 19) hR (by omega) rfl) (by omega) rfl rfl rfl rfl rfl rfl rfl rfl rfl (fun zv4 zS4 zh4 => ?_)))))
    obtain ⟨rfl, h⟩ := zh4
    refine (g_rv rfl rfl ?_)
    exact ⟨rfl, h⟩
end
