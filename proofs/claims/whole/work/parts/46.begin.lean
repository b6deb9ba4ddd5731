/-! Holding: begin -/
def bgPost (S0 : zS) : Value → zS → Prop := fun v S' => v = .null ∧ Ag [18, 19, 20] S0 S' ∧ (∀ i, i < 12 → S'.1 19 i = S0.1 4 i) ∧ (∀ i, i < 8 → S'.1 20 i = 0) ∧ S'.1 18 5 = 0
section
variable {l : Launch} {D : va_G} {ad : Nat → Nat} {cA : ClassId} {x y z w : Int32} {S S' S0 : zS} {m : Mt} {n p k : Nat}
theorem lp_begin : ∀ (k i : Nat) (S : zS), i + k = 12 → Ag [19] S0 S → (∀ j, j < i → S.1 19 j = S0.1 4 j) → Go (l, wX, D, ad, cA) 1 m_Hold_begin (bgPost S0) 2 [some (.ref 18), some (.ref 4), some (.int (nI i))] [] S
  | 0, i, S, e, hA, hj => by
    have e6 : i = 12 := by omega
    subst e6
    refine (g_ld rfl rfl rfl (g_c rfl rfl (g_if rfl rfl (fun zc5 => (g_ld rfl rfl rfl (g_gr rfl rfl rfl rfl rfl (g_c rfl rfl (g_cs rfl (s_fill rfl rfl (by decide)) (by omega) rfl rfl rfl rfl rfl rfl (fun zv34 zS34 zh34 => ?_)))))) (fun zc5 => ?_))))
    · obtain ⟨rfl, hf⟩ := zh34
      refine (g_ld rfl rfl rfl (g_c rfl rfl (g_pi rfl rfl rfl rfl rfl rfl rfl (g_rv rfl rfl ?_))))
      have hA2 : Ag [18, 19, 20] S0 zS34 := by
        subst hf
        exact (hA.mono (by simp +contextual)).uf (by decide)
      refine ⟨rfl, hA2.ui (by decide), fun i hi => ?_, fun i hi => ?_, ?_⟩
      · rw [ui_ne (by decide), hf, uf_ne (by decide)]
        exact hj i hi
      · rw [ui_ne (by decide), hf, uf_at]
        exact fill_at hi
      · rw [ui_at, pk_us]
    · exact absurd (by decide) zc5
  | k + 1, i, S, e, hA, hj => by
    have hi : i < 12 := by omega
    have hng : ¬ (12 : Int32) ≤ nI i := fun q => by have := le_n (a := 12) q; omega
    refine (g_ld rfl rfl rfl (g_c rfl rfl (g_if rfl rfl (fun zc5 => ?_) (fun zc5 => (g_ld rfl rfl rfl (g_ld rfl rfl rfl (g_len rfl rfl rfl (g_if rfl rfl (fun zc11 => ?_) (fun zc11 => (g_ld rfl rfl rfl (g_gr rfl rfl rfl rfl rfl (g_ld rfl rfl rfl (g_ld rfl rfl rfl (g_ld rfl rfl rfl (g_ald rfl rfl rfl ?_ (g_ast rfl rfl rfl ?_ (g_inc rfl rfl rfl rfl (g_go rfl ?_))))))))))))))))))
    · exact absurd zc5 hng
    · exact absurd zc11 hng
    · exact vp_in_nI hi (by decide)
    · exact vp_in_nI hi (by decide)
    · have := lp_begin k (i + 1) (z_ui S 19 i (S.1 4 i)) (by omega) (hA.ui (by decide)) (fun j hj2 => by
        rw [ui_at]
        by_cases e : j = i
        · rw [e, pk_us, hA.1 4 (by decide)]
        · rw [pk_un e]; exact hj j (by omega))
      rw [nI_succ] at this
      rw [nI_clamp (by omega)]
      exact this
theorem s_begin : Sp (l, wX, D, ad, cA) 1 m_Hold_begin [.ref 18, .ref 4] S (bgPost S) := by
  refine Sp.of dk_Hold_begin ok_Hold_begin rfl (g_c rfl rfl (g_st rfl rfl rfl rfl rfl ?_))
  exact lp_begin 12 0 S (by omega) Ag.rf (fun j hj => absurd hj (by omega))
end
