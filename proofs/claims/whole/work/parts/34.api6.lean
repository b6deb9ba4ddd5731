/-! drawn, about -/
def abI (B : Bk) (c : Nat) : Int32 := match bT B (12 + c) with
  | [] => -1
  | a :: _ => nI a
def chn (B : Bk) : Nat → Nat → Nat
  | 0, _ => 0
  | k + 1, c => match bT B (12 + c) with
    | [] => 0
    | a :: _ => 1 + chn B k a
theorem nn_i {x : Int32} (h : 0 ≤ x) : ∃ s, s < 2147483648 ∧ x = nI s ∧ x.toNatClampNeg = s := by
  have h0 := Int32.le_iff_toInt_le.mp h
  have e0 : (0 : Int32).toInt = 0 := by decide
  have hl := Int32.toInt_lt x
  refine ⟨x.toNatClampNeg, ?_, ?_, rfl⟩
  · have : x.toNatClampNeg = x.toInt.toNat := rfl
    omega
  · apply Int32.toInt_inj.mp
    have : x.toNatClampNeg = x.toInt.toNat := rfl
    rw [this]
    show _ = (Int32.ofNat _).toInt
    rw [Int32.toInt_ofNat_of_lt (by omega)]
    omega
section
variable {l : Launch} {D : va_G} {ad : Nat → Nat} {cA : ClassId} {x y z w : Int32} {S S' : zS} {m : Mt} {B : Bk} {kd : Nat → Nat} {r q n : Nat}
theorem hma_eq (hB : BkX S 3 B) (hW : WfB B) : ∀ (k c a : Nat), c < 4 → f_hma S k (abI B c) (nI a) = nI (a + chn B k c)
  | 0, c, a, _ => rfl
  | k + 1, c, a, hc => by
    rcases hW.2.2.2.2.2 c hc with e | e
    · unfold f_hma chn abI
      rw [e]
      exact if_pos rfl
    · obtain ⟨-, -, b, bs, e', hb, -⟩ := e
      have e1 : abI B c = nI b := by unfold abI; rw [e']
      have e2 : chn B (k + 1) c = 1 + chn B k b := by rw [chn, e']
      have h3 : b = 0 ∨ b = 1 ∨ b = 2 := by omega
      have hne : ¬ nI b = -1 := by rcases h3 with e | e | e <;> rw [e] <;> decide
      rw [e1, e2, f_hma, if_neg hne, ← nI_succ]
      have hab : f_abv S 3 (nI b) = abI B b := bk_abv hB hW (by omega)
      rw [hab, hma_eq hB hW k b (a + 1) (by omega), show a + 1 + chn B k b = a + (1 + chn B k b) by omega]
theorem s_wayOrNone : Sp (l, wX, D, ad, cA) 2 m_SB_wayOrNone [.ref 0, .int x, .int z] S (fun v S' => v = .int (if 0 ≤ z ∧ z < f_par S 3 x then f_way S 30 x z else -1) ∧ S' = S) := by
  refine Sp.of dk_SB_wayOrNone ok_SB_wayOrNone rfl (g_ld rfl rfl rfl (g_gr rfl rfl rfl rfl rfl (g_ld rfl rfl rfl (g_ld rfl rfl rfl (g_cv rfl (s_hasParameter (by decide)) (by omega) rfl rfl rfl rfl rfl rfl rfl rfl rfl (z_k1 (g_if rfl rfl (fun zc9 => (g_c rfl rfl (g_ri rfl rfl rfl ?_))) (fun zc9 => (g_ld rfl rfl rfl (g_gr rfl rfl rfl rfl rfl (g_ld rfl rfl rfl (g_ld rfl rfl rfl (g_cv rfl (s_wayOf (by decide)) (by omega) rfl rfl rfl rfl rfl rfl rfl rfl rfl (z_k1 (g_go rfl (g_ri rfl rfl rfl ?_))))))))))))))))
  · rw [if_neg (b2_0.mp zc9)]; exact ⟨rfl, rfl⟩
  · rw [if_pos (b2_n.mp zc9)]; exact ⟨rfl, rfl⟩
noncomputable def gW (m : Mt) (x z : Int32) : Int32 := if 0 ≤ z ∧ z < gP m x then nI (wy (mB m) (mK m) (2 * x.toNatClampNeg + z.toNatClampNeg)) else -1
theorem gW_eq (h : InvX S m) {c p : Nat} (hc : c < 4) (hp : p < 2) : (if 0 ≤ nI p ∧ nI p < f_par S 3 (nI c) then f_way S 30 (nI c) (nI p) else -1) = gW m (nI c) (nI p) := by
  unfold gW
  rw [gP_eq (m := m) h.2.2.1]
  by_cases a : 0 ≤ nI p ∧ nI p < gP m (nI c)
  · rw [if_pos a, if_pos a, nI_clamp (by omega), nI_clamp (by omega)]
    have e : 2 * nI c + nI p = nI (2 * c + p) := by rw [show (2 : Int32) = nI 2 from rfl, pk_mul, nI_add]
    unfold f_way
    rw [e, if_pos (in8 (by omega)), nI_clamp (by omega)]
    exact h.2.2.2.2.1.2 _ (by omega)
  · rw [if_neg a, if_neg a]
abbrev isCl (m : Mt) (x : Int32) : Prop := 0 ≤ x ∧ x < nI (bN (mB m)) ∧ x < 4
noncomputable def v_about (m : Mt) (x y : Int32) : Int32 := if isCl m x then (if y = 0 then gP m x else if y = 1 then abI (mB m) x.toNatClampNeg else if y = 2 then gM m x else if y = 3 then gW m x 0 else if y = 4 then gW m x 1 else if y = 5 then nI (chn (mB m) 4 x.toNatClampNeg) else -102) else -101
theorem x_about (h : InvX S m) (hm : MOk m) : Sp (l, wX, D, ad, cA) 4 m_SB_about [.ref 0, .int x, .int y] S (fun v S' => v = .int (v_about m x y) ∧ S' = S) := by
  have hn := h.2.2.1.1
  unfold v_about
  refine Sp.of dk_SB_about ok_SB_about rfl (g_ld rfl rfl rfl (g_gr rfl rfl rfl rfl rfl (g_ld rfl rfl rfl (g_cv rfl (s_hasClass (by decide)) (by omega) rfl rfl rfl rfl rfl rfl rfl rfl rfl (z_k1 (g_if rfl rfl (fun zc8 => (g_ld rfl rfl rfl ?_)) (fun zc8 => (g_c rfl rfl (g_ri rfl rfl rfl ?_)))))))))
  · have a := b2_n.mp zc8
    rw [hn] at a
    have a' : isCl m x := a
    rw [if_pos a']
    obtain ⟨c, hc, rfl, ec⟩ := in_cl (n := 4) a.1 a.2.2
    rw [ec]
    have hab : f_abv S 3 (nI c) = abI (mB m) c := bk_abv h.2.2.1 hm.2.2.1 hc
    by_cases hy : 0 ≤ y ∧ y < 6
    · obtain ⟨j, hj, rfl, -⟩ := in_cl (n := 6) hy.1 hy.2
      have h6 : j = 0 ∨ j = 1 ∨ j = 2 ∨ j = 3 ∨ j = 4 ∨ j = 5 := by omega
      rcases h6 with e | e | e | e | e | e
      · subst e
        rw [if_pos (by decide)]
        refine g_tin (off := 37) (tgt := 52) rfl (by decide) (by decide) (by decide) (by decide) (g_ld rfl rfl rfl (g_gr rfl rfl rfl rfl rfl (g_ld rfl rfl rfl (g_cv rfl (s_parametersOf (by decide)) (by omega) rfl rfl rfl rfl rfl rfl rfl rfl rfl (z_k1 (g_ri rfl rfl rfl ?_))))))
        exact ⟨by rw [gP_eq (m := m) h.2.2.1], rfl⟩
      · subst e
        rw [if_neg (by decide), if_pos (by decide)]
        refine g_tin (off := 46) (tgt := 61) rfl (by decide) (by decide) (by decide) (by decide) (g_ld rfl rfl rfl (g_gr rfl rfl rfl rfl rfl (g_ld rfl rfl rfl (g_cv rfl (s_classAbove (by decide)) (by omega) rfl rfl rfl rfl rfl rfl rfl rfl rfl (z_k1 (g_ri rfl rfl rfl ?_))))))
        exact ⟨by rw [hab], rfl⟩
      · subst e
        rw [if_neg (by decide), if_neg (by decide), if_pos (by decide)]
        refine g_tin (off := 55) (tgt := 70) rfl (by decide) (by decide) (by decide) (by decide) (g_ld rfl rfl rfl (g_gr rfl rfl rfl rfl rfl (g_ld rfl rfl rfl (g_cv rfl (s_membersOf (by decide)) (by omega) rfl rfl rfl rfl rfl rfl rfl rfl rfl (z_k1 (g_ri rfl rfl rfl ?_))))))
        exact ⟨by rw [gM_eq (m := m) h.2.2.1], rfl⟩
      · subst e
        rw [if_neg (by decide), if_neg (by decide), if_neg (by decide), if_pos (by decide)]
        refine g_tin (off := 64) (tgt := 79) rfl (by decide) (by decide) (by decide) (by decide) (g_ld rfl rfl rfl (g_ld rfl rfl rfl (g_c rfl rfl (g_cv rfl (s_wayOrNone) (by omega) rfl rfl rfl rfl rfl rfl rfl rfl rfl (z_k1 (g_ri rfl rfl rfl ?_))))))
        have := gW_eq (S := S) (m := m) h hc (p := 0) (by omega)
        exact ⟨congrArg Value.int this, rfl⟩
      · subst e
        rw [if_neg (by decide), if_neg (by decide), if_neg (by decide), if_neg (by decide), if_pos (by decide)]
        refine g_tin (off := 71) (tgt := 86) rfl (by decide) (by decide) (by decide) (by decide) (g_ld rfl rfl rfl (g_ld rfl rfl rfl (g_c rfl rfl (g_cv rfl (s_wayOrNone) (by omega) rfl rfl rfl rfl rfl rfl rfl rfl rfl (z_k1 (g_ri rfl rfl rfl ?_))))))
        have := gW_eq (S := S) (m := m) h hc (p := 1) (by omega)
        exact ⟨congrArg Value.int this, rfl⟩
      · subst e
        rw [if_neg (by decide), if_neg (by decide), if_neg (by decide), if_neg (by decide), if_neg (by decide), if_pos (by decide)]
        refine g_tin (off := 78) (tgt := 93) rfl (by decide) (by decide) (by decide) (by decide) (g_ld rfl rfl rfl (g_gr rfl rfl rfl rfl rfl (g_ld rfl rfl rfl (g_cv rfl (s_howManyAbove) (by omega) rfl rfl rfl rfl rfl rfl rfl rfl rfl (z_k1 (g_ri rfl rfl rfl ?_))))))
        have := hma_eq (S := S) h.2.2.1 hm.2.2.1 4 c 0 hc
        rw [Nat.zero_add] at this
        rw [hab]
        exact ⟨congrArg Value.int this, rfl⟩
    · have hne : ∀ k : Int32, 0 ≤ k → k < 6 → ¬ y = k := fun k h1 h2 e => hy (by rw [e]; exact ⟨h1, h2⟩)
      rw [if_neg (hne 0 (by decide) (by decide)), if_neg (hne 1 (by decide) (by decide)), if_neg (hne 2 (by decide) (by decide)), if_neg (hne 3 (by decide) (by decide)), if_neg (hne 4 (by decide) (by decide)), if_neg (hne 5 (by decide) (by decide))]
      have ho : y.toInt < 0 ∨ 5 < y.toInt := by
        rw [Int32.le_iff_toInt_le, Int32.lt_iff_toInt_lt] at hy
        have e0 : (0 : Int32).toInt = 0 := by decide
        have e6 : (6 : Int32).toInt = 6 := by decide
        omega
      refine g_tout (tgt := 102) rfl ho (by decide) (g_c rfl rfl (g_ri rfl rfl rfl ?_))
      exact ⟨rfl, rfl⟩
  · have a := b2_0.mp (Decidable.not_not.mp zc8)
    rw [hn] at a
    rw [if_neg a]
    exact ⟨rfl, rfl⟩
abbrev dwOk (x y z : Int32) : Prop := 1 ≤ x ∧ x ≤ 60 ∧ 0 ≤ y ∧ 0 ≤ z ∧ z ≤ 2
noncomputable def dwR (m : Mt) (x y : Int32) : Nat × Nat × Nat := dR (mB m) (wy (mB m) (mK m)) x.toNatClampNeg 0 0 y.toNatClampNeg
noncomputable def v_drawn (m : Mt) (x y z : Int32) : Int32 := if dwOk x y z then (if (pls (mB m)).length = 0 then -103 else if z = 0 then nI (dwR m x y).1 else if z = 1 then nI (dwR m x y).2.1 else nI (dwR m x y).2.2) else -102
theorem x_drawn (h : InvX S m) (hm : MOk m) : Sp (l, wX, D, ad, cA) 59 m_SB_drawn [.ref 0, .int x, .int y, .int z] S (fun v S' => v = .int (v_drawn m x y z) ∧ InvX S' m) := by
  have hps := pl_sum (S := S) h.2.2.1 hm.2.2.1 (bN (mB m)) hm.2.2.1.1
  have hpl4 : (pls (mB m)).length ≤ 4 := by
    have := List.length_filter_le (isP (mB m)) (List.range' 0 (bN (mB m)))
    rw [List.length_range'] at this
    have h4 := hm.2.2.1.1
    unfold pls
    omega
  unfold v_drawn
  refine Sp.of dk_SB_drawn ok_SB_drawn rfl (g_ld rfl rfl rfl (g_c rfl rfl (g_if rfl rfl (fun zc2 => (g_c rfl rfl (g_ri rfl rfl rfl ?_))) (fun zc2 => (g_ld rfl rfl rfl (g_c rfl rfl (g_if rfl rfl (fun zc8 => (g_c rfl rfl (g_ri rfl rfl rfl ?_))) (fun zc8 => (g_ld rfl rfl rfl (g_if rfl rfl (fun zc12 => (g_c rfl rfl (g_ri rfl rfl rfl ?_))) (fun zc12 => (g_ld rfl rfl rfl (g_if rfl rfl (fun zc16 => (g_c rfl rfl (g_ri rfl rfl rfl ?_))) (fun zc16 => (g_ld rfl rfl rfl (g_c rfl rfl (g_if rfl rfl (fun zc21 => ?_) (fun zc21 => (g_c rfl rfl (g_ri rfl rfl rfl ?_))))))))))))))))))))
  · rw [if_neg (fun q => absurd q.1 (Int32.not_le.mpr zc2))]; exact ⟨rfl, h⟩
  · rw [if_neg (fun q => absurd q.2.1 (Int32.not_le.mpr zc8))]; exact ⟨rfl, h⟩
  · rw [if_neg (fun q => absurd q.2.2.1 (i_ng zc12))]; exact ⟨rfl, h⟩
  · rw [if_neg (fun q => absurd q.2.2.2.1 (i_ng zc16))]; exact ⟨rfl, h⟩
  · have b : dwOk x y z := ⟨Int32.not_lt.mp zc2, Int32.not_lt.mp zc8, i_ge zc12, i_ge zc16, zc21⟩
    rw [if_pos b]
    obtain ⟨tm, htm, ex, ex2⟩ : ∃ tm, tm ≤ 60 ∧ x = nI tm ∧ x.toNatClampNeg = tm := by
      have q1 := Int32.le_iff_toInt_le.mp b.1
      have q2 := Int32.le_iff_toInt_le.mp b.2.1
      have e1 : (1 : Int32).toInt = 1 := by decide
      have e60 : (60 : Int32).toInt = 60 := by decide
      obtain ⟨tm, h1, h2, h3⟩ := nn_i (x := x) (by
        rw [Int32.le_iff_toInt_le]
        have e0 : (0 : Int32).toInt = 0 := by decide
        omega)
      refine ⟨tm, ?_, h2, h3⟩
      have : x.toNatClampNeg = x.toInt.toNat := rfl
      omega
    obtain ⟨sd, hs2, ey, ey2⟩ := nn_i b.2.2.1
    refine (g_ld rfl rfl rfl (g_gr rfl rfl rfl rfl rfl (g_cv rfl (s_howManyPlain hm.2.2.1.1 h.2.2.1.1) (by omega) rfl rfl rfl rfl rfl rfl rfl rfl rfl (z_k1 (g_if rfl rfl (fun zc34 => ?_) (fun zc34 => (g_c rfl rfl (g_ri rfl rfl rfl ?_))))))))
    · rw [hps] at zc34
      have hpl : 0 < (pls (mB m)).length := Nat.pos_of_ne_zero (fun e => zc34 (by unfold pls at e; rw [e]; rfl))
      have hn0 : 0 < bN (mB m) := by
        apply Nat.pos_of_ne_zero
        intro e
        unfold pls at hpl
        rw [e] at hpl
        exact absurd hpl (by simp)
      rw [if_neg (by omega)]
      refine (g_ld rfl rfl rfl (g_gr rfl rfl rfl rfl rfl (g_ld rfl rfl rfl (g_ld rfl rfl rfl (g_cv rfl (s_run (h.fx hm) hn0 hpl htm hs2 ex ey) (by omega) rfl rfl rfl rfl rfl rfl rfl rfl rfl (fun zv46 zS46 zh46 => ?_))))))
      obtain ⟨rfl, hAl, hrow, h4, h5, h6, h7⟩ := zh46
      have hI : InvX zS46 m := h.scr (fun k hk _ => hAl k (by simp; omega)) hrow
      have hR : dwR m x y = dR (mB m) (wy (mB m) (mK m)) tm 0 0 sd := by unfold dwR; rw [ex2, ey2]
      rw [hR]
      obtain ⟨j, hj, ez, -⟩ := nn_i b.2.2.2.1
      have hj3 : j = 0 ∨ j = 1 ∨ j = 2 := by
        have q2 := Int32.le_iff_toInt_le.mp b.2.2.2.2
        have e2 : (2 : Int32).toInt = 2 := by decide
        have e3 : (nI j).toInt = j := Int32.toInt_ofNat_of_lt (by omega)
        rw [ez] at q2
        omega
      refine (g_ld rfl rfl rfl ?_)
      rcases hj3 with e | e | e
      · rw [e] at ez
        subst ez
        rw [if_pos (by decide)]
        refine g_lsw (off := 26) (tgt := 76) rfl (by decide) (by decide) (by decide) (g_ld rfl rfl rfl (g_gr rfl rfl rfl rfl rfl (g_gi rfl rfl rfl rfl rfl (g_ri rfl rfl rfl ?_))))
        exact ⟨by rw [h4], hI⟩
      · rw [e] at ez
        subst ez
        rw [if_neg (by decide), if_pos (by decide)]
        refine g_lsw (off := 34) (tgt := 84) rfl (by decide) (by decide) (by decide) (g_ld rfl rfl rfl (g_gr rfl rfl rfl rfl rfl (g_gi rfl rfl rfl rfl rfl (g_ri rfl rfl rfl ?_))))
        exact ⟨by rw [h5], hI⟩
      · rw [e] at ez
        subst ez
        rw [if_neg (by decide), if_neg (by decide)]
        refine g_lsw (off := 42) (tgt := 92) rfl (by decide) (by decide) (by decide) (g_ld rfl rfl rfl (g_gr rfl rfl rfl rfl rfl (g_gl rfl rfl rfl rfl rfl (g_un rfl rfl (g_ri rfl rfl rfl ?_)))))
        exact ⟨by rw [h6, lN_i], hI⟩
    · rw [hps] at zc34
      have e := Decidable.not_not.mp zc34
      have e2 : (pls (mB m)).length = 0 := eq_n (b := 0) e
      rw [if_pos e2]
      exact ⟨rfl, h⟩
  · rw [if_neg (fun q => zc21 q.2.2.2.2)]; exact ⟨rfl, h⟩
end
