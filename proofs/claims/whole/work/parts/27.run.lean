/-! Draws.run -/
def dR (B : Bk) (V : Nat → Nat) : Nat → Nat → Nat → Nat → Nat × Nat × Nat
  | 0, o, m, s => (o, m, s)
  | k + 1, o, m, s => dR B V k (o + (if sF B V 16 (dTy B s).1 (dTy B (dTy B s).2).1 = true then 1 else 0)) (m + (dTy B s).1.length + (dTy B (dTy B s).2).1.length) (dTy B (dTy B s).2).2
section
variable {l : Launch} {D : va_G} {ad : Nat → Nat} {cA : ClassId} {d r q n : Nat} {x z : Int32} {S S0 : zS} {B : Bk} {V kd : Nat → Nat} {sl : Nat → List Nat}
def rnPost (S0 : zS) (R : Nat × Nat × Nat) : Value → zS → Prop := fun v S' => v = .null ∧ Al [41, 42, 43, 44] S0 S' ∧ (∀ k, k < 4 → S'.1 41 k = nI k) ∧ S'.1 42 4 = nI R.1 ∧ S'.1 42 5 = nI R.2.1 ∧ S'.2 42 = lN R.2.2 ∧ R.2.2 < 2147483648
theorem lp_run (hX : FX S0 B V) (hn : 0 < bN B) (hp : 0 < (pls B).length) {tm : Nat} {x2 : Int32} (htm : tm ≤ 60) : ∀ (k i o m s : Nat) (S : zS), i + k = tm → o ≤ i → m ≤ 14 * i → Al [41, 42, 43, 44] S0 S → (∀ k, k < 4 → S.1 41 k = nI k) → S.1 42 4 = nI o → S.1 42 5 = nI m → S.2 42 = lN s → s < 2147483648 → Go (l, wX, D, ad, cA) 58 m_Draws_run (rnPost S0 (dR B V k o m s)) 18 [some (.ref 42), some (.int (nI tm)), some (.int x2), some (.int (nI i))] [] S := by
  have hW := hX.2.1
  intro k
  induction k with
  | zero =>
    intro i o m s S hi ho hm hA hrow h4 h5 hs hs2
    refine (g_ld rfl rfl rfl (g_ld rfl rfl rfl (g_if rfl rfl (fun zc20 => (g_rv rfl rfl ?_)) (fun zc20 => ?_))))
    · exact ⟨rfl, hA, hrow, h4, h5, hs, hs2⟩
    · have := nle_n zc20; omega
  | succ k ih =>
    intro i o m s S hi ho hm hA hrow h4 h5 hs hs2
    have hB : BkX S 3 B := hX.1.ag (fun k h3 h9 => hA k (by simp; omega))
    have hty := dTy_ok hW hn hp s
    have huy := dTy_ok hW hn hp (dTy B s).2
    refine (g_ld rfl rfl rfl (g_ld rfl rfl rfl (g_if rfl rfl (fun zc20 => (g_rv rfl rfl ?_)) (fun zc20 => (g_ld rfl rfl rfl (g_cv rfl (s_drawType hW hn hp hB hs hs2) (by omega) rfl rfl rfl rfl rfl rfl rfl rfl rfl (fun zv24 zS24 zh24 => ?_)))))))
    · have := le_n zc20; omega
    · obtain ⟨rfl, hd1, hA1⟩ := zh24
      refine (g_ld rfl rfl rfl (g_gr rfl rfl rfl rfl rfl (g_ld rfl rfl rfl (g_gr rfl rfl rfl rfl rfl (g_cv rfl (s_layOne (Or.inr rfl) hd1.2.2.2) (by omega) rfl rfl rfl rfl rfl rfl rfl rfl rfl (fun zv35 zS35 zh35 => ?_))))))
      obtain ⟨rfl, hA2, hAt2, hout2⟩ := zh35
      have e5 : zS35.1 42 5 = nI m := by rw [hA2.1 _ (by decide), hA1 _ (by decide)]; exact h5
      have e43 : zS35.1 43 1 = nI (dTy B s).1.length := by rw [hA2.1 _ (by decide)]; exact hd1.2.2.2.1
      refine (g_ld rfl rfl rfl (g_dup rfl rfl (g_gi rfl rfl rfl rfl rfl (g_ld rfl rfl rfl (g_gr rfl rfl rfl rfl rfl (g_gi rfl rfl rfl rfl rfl (g_bin rfl rfl (g_pi rfl rfl rfl rfl rfl rfl rfl ?_))))))))
      rw [e5, e43, nI_add]
      have hB3 : BkX (z_ui zS35 42 5 (nI (m + (dTy B s).1.length))) 3 B := hd1.1.ag (fun k h3 h9 => by rw [ui_ne (by omega), hA2.1 _ (by simp; omega)])
      have hs3 : (z_ui zS35 42 5 (nI (m + (dTy B s).1.length))).2 42 = lN (dTy B s).2 := by
        show zS35.2 42 = _
        rw [hA2.2]
        exact hd1.2.1
      have f41 : ∀ j, (z_ui zS35 42 5 (nI (m + (dTy B s).1.length))).1 41 j = zS35.1 41 j := fun j => by rw [ui_ne (by decide)]
      have f5 : (z_ui zS35 42 5 (nI (m + (dTy B s).1.length))).1 42 5 = nI (m + (dTy B s).1.length) := by rw [ui_at, pk_us]
      have f4 : (z_ui zS35 42 5 (nI (m + (dTy B s).1.length))).1 42 4 = nI o := by rw [ui_at, pk_un (by decide), hA2.1 _ (by decide), hA1 _ (by decide)]; exact h4
      have fA : Al [41, 42, 43, 44] S0 (z_ui zS35 42 5 (nI (m + (dTy B s).1.length))) := ((hA.tr (hA1.mono (by simp))).tr (hA2.al.mono (by simp))).ui (by decide)
      generalize z_ui zS35 42 5 (nI (m + (dTy B s).1.length)) = T at hB3 hs3 f41 f5 f4 fA ⊢
      refine (g_ld rfl rfl rfl (g_cv rfl (s_drawType hW hn hp hB3 hs3 hty.2.2) (by omega) rfl rfl rfl rfl rfl rfl rfl rfl rfl (fun zv55 zS55 zh55 => ?_)))
      obtain ⟨rfl, hd4, hA4⟩ := zh55
      refine (g_ld rfl rfl rfl (g_gr rfl rfl rfl rfl rfl (g_ld rfl rfl rfl (g_gr rfl rfl rfl rfl rfl (g_cv rfl (s_layOther (Or.inr rfl) hd4.2.2.2) (by omega) rfl rfl rfl rfl rfl rfl rfl rfl rfl (fun zv66 zS66 zh66 => ?_))))))
      obtain ⟨rfl, hA5, hAt5, hout5⟩ := zh66
      have g5 : zS66.1 42 5 = nI (m + (dTy B s).1.length) := by rw [hA5.1 _ (by decide), hA4 _ (by decide)]; exact f5
      have g43 : zS66.1 43 1 = nI (dTy B (dTy B s).2).1.length := by rw [hA5.1 _ (by decide)]; exact hd4.2.2.2.1
      refine (g_ld rfl rfl rfl (g_dup rfl rfl (g_gi rfl rfl rfl rfl rfl (g_ld rfl rfl rfl (g_gr rfl rfl rfl rfl rfl (g_gi rfl rfl rfl rfl rfl (g_bin rfl rfl (g_pi rfl rfl rfl rfl rfl rfl rfl ?_))))))))
      rw [g5, g43, nI_add]
      have k5 : (z_ui zS66 42 5 (nI (m + (dTy B s).1.length + (dTy B (dTy B s).2).1.length))).1 42 5 = nI (m + (dTy B s).1.length + (dTy B (dTy B s).2).1.length) := by rw [ui_at, pk_us]
      have k4 : (z_ui zS66 42 5 (nI (m + (dTy B s).1.length + (dTy B (dTy B s).2).1.length))).1 42 4 = nI o := by rw [ui_at, pk_un (by decide), hA5.1 _ (by decide), hA4 _ (by decide)]; exact f4
      have kA : Al [41, 42, 43, 44] S0 (z_ui zS66 42 5 (nI (m + (dTy B s).1.length + (dTy B (dTy B s).2).1.length))) := ((fA.tr (hA4.mono (by simp))).tr (hA5.al.mono (by simp))).ui (by decide)
      have ks : (z_ui zS66 42 5 (nI (m + (dTy B s).1.length + (dTy B (dTy B s).2).1.length))).2 42 = lN (dTy B (dTy B s).2).2 := by
        show zS66.2 42 = _
        rw [hA5.2]
        exact hd4.2.1
      have k41 : ∀ j, j < 19 → (z_ui zS66 42 5 (nI (m + (dTy B s).1.length + (dTy B (dTy B s).2).1.length))).1 41 j = zS35.1 41 j := fun j hj => by rw [ui_ne (by decide), hout5 j (by omega), hA4 _ (by decide), f41]
      have kU : At ((z_ui zS66 42 5 (nI (m + (dTy B s).1.length + (dTy B (dTy B s).2).1.length))).1 41) 19 (dTy B (dTy B s).2).1 := by rw [ui_ne (by decide)]; exact hAt5
      generalize z_ui zS66 42 5 (nI (m + (dTy B s).1.length + (dTy B (dTy B s).2).1.length)) = U at k5 k4 kA ks k41 kU ⊢
      have krow : ∀ k, k < 4 → U.1 41 k = nI k := fun j hj => by rw [k41 j (by omega), hout2 j (by omega), hA1 _ (by decide)]; exact hrow j hj
      have hX6 : FX U B V := ⟨hX.1.ag (fun k h3 h9 => kA k (by simp; omega)), hW, hX.2.2.1.ag (kA _ (by decide)), krow⟩
      have hT6 : HT U 4 (dTy B s).1 := ⟨hAt2.congr (fun j hj => k41 _ (by omega)), by omega⟩
      have hU6 : HT U 19 (dTy B (dTy B s).2).1 := ⟨kU, by omega⟩
      refine (g_ld rfl rfl rfl (g_gr rfl rfl rfl rfl rfl (g_cv rfl (s_oneFits hX6 hT6 hU6 hty.1 huy.1) (by omega) rfl rfl rfl rfl rfl rfl rfl rfl rfl (z_k1 (g_if rfl rfl (fun zc92 => (g_inc rfl rfl rfl rfl (g_go rfl ?_))) (fun zc92 => (g_ld rfl rfl rfl (g_dup rfl rfl (g_gi rfl rfl rfl rfl rfl (g_c rfl rfl (g_bin rfl rfl (g_pi rfl rfl rfl rfl rfl rfl rfl (g_inc rfl rfl rfl rfl (g_go rfl ?_))))))))))))))
      · have hf := b2_0.mp zc92
        have := ih (i + 1) o (m + (dTy B s).1.length + (dTy B (dTy B s).2).1.length) (dTy B (dTy B s).2).2 U (by omega) (by omega) (by omega) kA krow k4 k5 ks huy.2.2
        rw [nI_succ i] at this
        rw [dR, if_neg hf, Nat.add_zero]
        exact this
      · have hf := b2_n.mp zc92
        rw [k4]
        have := ih (i + 1) (o + 1) (m + (dTy B s).1.length + (dTy B (dTy B s).2).1.length) (dTy B (dTy B s).2).2 (z_ui U 42 4 (nI (o + 1))) (by omega) (by omega) (by omega) (kA.ui (by decide)) (fun k hk => by rw [ui_ne (by decide)]; exact krow k hk) (by rw [ui_at, pk_us]) (by rw [ui_at, pk_un (by decide)]; exact k5) ks huy.2.2
        rw [nI_succ i, nI_succ o] at this
        rw [dR, if_pos hf]
        exact this
theorem s_run (hX : FX S B V) (hn : 0 < bN B) (hp : 0 < (pls B).length) {tm s : Nat} (htm : tm ≤ 60) (hs2 : s < 2147483648) (hx : x = nI tm) (hz : z = nI s) : Sp (l, wX, D, ad, cA) 58 m_Draws_run [.ref 42, .int x, .int z] S (rnPost S (dR B V tm 0 0 s)) := by
  subst hx
  subst hz
  refine Sp.of dk_Draws_run ok_Draws_run rfl (g_ld rfl rfl rfl (g_ld rfl rfl rfl (g_un rfl rfl (g_pl rfl rfl rfl rfl rfl rfl rfl ho_D (g_ld rfl rfl rfl (g_c rfl rfl (g_pi rfl rfl rfl rfl rfl rfl rfl (g_ld rfl rfl rfl (g_c rfl rfl (g_pi rfl rfl rfl rfl rfl rfl rfl (g_c rfl rfl (g_st rfl rfl rfl rfl rfl ?_))))))))))))
  refine lp_run hX hn hp htm tm 0 0 0 s _ (by omega) (by omega) (by omega) ((Al.rf.ul.ui (by decide)).ui (by decide)) (fun k hk => ?_) ?_ ?_ ?_ hs2
  · rw [ui_ne (by decide), ui_ne (by decide)]
    exact hX.2.2.2 k hk
  · rw [ui_at, pk_un (by decide), ui_at, pk_us]; rfl
  · rw [ui_at, pk_us]; rfl
  · show (z_ul S 42 (nI s).toInt64).2 42 = lN s
    rw [nI_l (by omega)]
    simp [z_ul]
end
