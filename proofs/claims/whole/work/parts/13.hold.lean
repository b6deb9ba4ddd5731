/-! slots, kinds, what is seen; rows -/
section
variable {l : Launch} {D : va_G} {ad : Nat → Nat} {cA : ClassId} {d r q n : Nat} {x z : Int32} {S : zS}
def f_sig (S : zS) (r : Nat) (x z : Int32) : Int32 := if (0 ≤ x ∧ x < 8) ∧ 0 ≤ z ∧ z < 15 then S.1 (r + 3) (15 * x + z).toNatClampNeg else 0
theorem slot_in {x z : Int32} (h1 : 0 ≤ x ∧ x < 8) (h2 : 0 ≤ z) (h3 : z < 15) : ∃ a b : Nat, a < 8 ∧ b < 15 ∧ x = nI a ∧ z = nI b ∧ 15 * x + z = nI (15 * a + b) := by
  obtain ⟨a, ha, rfl⟩ := vp_in_of (t_in (n := 8) h1.1 h1.2) (by omega)
  obtain ⟨b, hb, rfl⟩ := vp_in_of (t_in (n := 15) h2 h3) (by omega)
  refine ⟨a, b, ha, hb, rfl, rfl, ?_⟩
  rw [show (15 : Int32) = nI 15 from rfl, pk_mul, nI_add]
theorem s_hsignAt (hr : r = 18 ∨ r = 24) : Sp (l, wX, D, ad, cA) 1 m_Hold_signAt [.ref r, .int x, .int z] S (fun v S' => v = .int (f_sig S r x z) ∧ S' = S) := by
  rcases hr with rfl | rfl
  all_goals
    refine Sp.of dk_Hold_signAt ok_Hold_signAt rfl (g_ld rfl rfl rfl (g_cs rfl (s_isSlot) (by omega) rfl rfl rfl rfl rfl rfl (z_k1 (g_if rfl rfl (fun zc4 => (g_c rfl rfl (g_ri rfl rfl rfl ?_))) (fun zc4 => (g_ld rfl rfl rfl (g_if rfl rfl (fun zc8 => (g_c rfl rfl (g_ri rfl rfl rfl ?_))) (fun zc8 => (g_ld rfl rfl rfl (g_c rfl rfl (g_if rfl rfl (fun zc14 => (g_c rfl rfl (g_ri rfl rfl rfl ?_))) (fun zc14 => (g_ld rfl rfl rfl (g_gr rfl rfl rfl rfl rfl (g_c rfl rfl (g_ld rfl rfl rfl (g_bin rfl rfl (g_ld rfl rfl rfl (g_bin rfl rfl (g_ald rfl rfl rfl ?_ (g_go rfl (g_ri rfl rfl rfl ?_))))))))))))))))))))))
    · exact v_int (if_neg (fun h => b2_0.mp zc4 h.1)).symm rfl
    · exact v_int (if_neg (fun h => absurd h.2.1 (i_ng zc8))).symm rfl
    · exact v_int (if_neg (fun h => absurd h.2.2 (i_nl zc14))).symm rfl
    · obtain ⟨a, b, ha, hb, rfl, rfl, e⟩ := slot_in (b2_n.mp zc4) (i_ge zc8) (i_gt zc14)
      rw [e]
      exact vp_in_nI (by omega) (by omega)
    · exact v_int (if_pos ⟨b2_n.mp zc4, i_ge zc8, i_gt zc14⟩).symm rfl
theorem s_classIn (hr : r = 18 ∨ r = 24) : Sp (l, wX, D, ad, cA) 2 m_Hold_classIn [.ref r, .int x] S (fun v S' => v = .int (f_sig S r x 0) ∧ S' = S) := by
  rcases hr with rfl | rfl
  all_goals
    refine Sp.of dk_Hold_classIn ok_Hold_classIn rfl (g_ld rfl rfl rfl (g_ld rfl rfl rfl (g_c rfl rfl (g_cv rfl (s_hsignAt (by decide)) (by omega) rfl rfl rfl rfl rfl rfl rfl rfl rfl (z_k1 (g_ri rfl rfl rfl ?_))))))
    exact ⟨rfl, rfl⟩
theorem s_setKind (hn : n < 12) : Sp (l, wX, D, ad, cA) 0 m_Hold_setKind [.ref 18, .int (nI n), .int z] S (fun v S' => v = .null ∧ S' = z_ui S 19 n z) := by
  refine Sp.of dk_Hold_setKind ok_Hold_setKind rfl (g_ld rfl rfl rfl (g_if rfl rfl (fun zc1 => (g_rv rfl rfl ?_)) (fun zc1 => (g_ld rfl rfl rfl (g_ld rfl rfl rfl (g_gr rfl rfl rfl rfl rfl (g_len rfl rfl rfl (g_if rfl rfl (fun zc10 => (g_rv rfl rfl ?_)) (fun zc10 => (g_ld rfl rfl rfl (g_gr rfl rfl rfl rfl rfl (g_ld rfl rfl rfl (g_ld rfl rfl rfl (g_ast rfl rfl rfl ?_ (g_rv rfl rfl ?_)))))))))))))))
  · exact absurd zc1 (nI_pos (by omega))
  · exact absurd zc10 (nI_ge hn (by omega))
  · exact vp_in_nI hn (by omega)
  · rw [nI_clamp (by omega)]; exact ⟨rfl, rfl⟩
def f_fs (S : zS) (k : Nat) : Int32 := if S.1 20 k ≤ 0 then 0 else 1
theorem lp_filledSlots (i : Nat) (hi : i ≤ 8) : Go (l, wX, D, ad, cA) 0 m_Hold_filledSlots (fun v S' => v = .int (sumF (f_fs S) 8) ∧ S' = S) 4 [some (.ref 18), some (.int (sumF (f_fs S) i)), some (.int (nI i))] [] S := by
  refine (g_ld rfl rfl rfl (g_c rfl rfl (g_if rfl rfl (fun zc7 => (g_ld rfl rfl rfl (g_ri rfl rfl rfl ?_))) (fun zc7 => (g_ld rfl rfl rfl (g_gr rfl rfl rfl rfl rfl (g_ld rfl rfl rfl (g_ald rfl rfl rfl ?_ (g_if rfl rfl (fun zc16 => (g_inc rfl rfl rfl rfl (g_go rfl ?_))) (fun zc16 => (g_inc rfl rfl rfl rfl (g_inc rfl rfl rfl rfl (g_go rfl ?_)))))))))))))
  · have := le_n (a := 8) zc7
    rw [show i = 8 by omega]; exact ⟨rfl, rfl⟩
  · exact vp_in_nI (nle_n (a := 8) zc7) (by omega)
  · have h1 := nle_n (a := 8) zc7
    rw [nI_clamp (by omega)] at zc16
    have := lp_filledSlots (i + 1) h1
    rw [nI_succ, show sumF (f_fs S) (i + 1) = sumF (f_fs S) i from by rw [sumF, f_fs, if_pos zc16, Int32.add_zero]] at this
    exact this
  · have h1 := nle_n (a := 8) zc7
    rw [nI_clamp (by omega)] at zc16
    have := lp_filledSlots (i + 1) h1
    rw [nI_succ, show sumF (f_fs S) (i + 1) = sumF (f_fs S) i + 1 from by rw [sumF, f_fs, if_neg zc16]] at this
    exact this
termination_by 8 - i
theorem s_filledSlots : Sp (l, wX, D, ad, cA) 0 m_Hold_filledSlots [.ref 18] S (fun v S' => v = .int (sumF (f_fs S) 8) ∧ S' = S) := by
  refine Sp.of dk_Hold_filledSlots ok_Hold_filledSlots rfl (g_c rfl rfl (g_st rfl rfl rfl rfl rfl (g_c rfl rfl (g_st rfl rfl rfl rfl rfl ?_))))
  exact lp_filledSlots 0 (Nat.zero_le _)
theorem lp_allSigns (i : Nat) (hi : i ≤ 8) : Go (l, wX, D, ad, cA) 0 m_Hold_allSigns (fun v S' => v = .int (sumF (S.1 20) 8) ∧ S' = S) 4 [some (.ref 18), some (.int (sumF (S.1 20) i)), some (.int (nI i))] [] S := by
  refine (g_ld rfl rfl rfl (g_c rfl rfl (g_if rfl rfl (fun zc7 => (g_ld rfl rfl rfl (g_ri rfl rfl rfl ?_))) (fun zc7 => (g_ld rfl rfl rfl (g_ld rfl rfl rfl (g_gr rfl rfl rfl rfl rfl (g_ld rfl rfl rfl (g_ald rfl rfl rfl ?_ (g_bin rfl rfl (g_st rfl rfl rfl rfl rfl (g_inc rfl rfl rfl rfl (g_go rfl ?_)))))))))))))
  · have := le_n (a := 8) zc7
    rw [show i = 8 by omega]; exact ⟨rfl, rfl⟩
  · exact vp_in_nI (nle_n (a := 8) zc7) (by omega)
  · have h1 := nle_n (a := 8) zc7
    rw [nI_clamp (by omega)]
    have := lp_allSigns (i + 1) h1
    rw [nI_succ, show sumF (S.1 20) (i + 1) = sumF (S.1 20) i + S.1 20 i from rfl] at this
    exact this
termination_by 8 - i
theorem s_allSigns : Sp (l, wX, D, ad, cA) 0 m_Hold_allSigns [.ref 18] S (fun v S' => v = .int (sumF (S.1 20) 8) ∧ S' = S) := by
  refine Sp.of dk_Hold_allSigns ok_Hold_allSigns rfl (g_c rfl rfl (g_st rfl rfl rfl rfl rfl (g_c rfl rfl (g_st rfl rfl rfl rfl rfl ?_))))
  exact lp_allSigns 0 (Nat.zero_le _)
/-- sortsOf: what the first i that are seen leave -/
def f_sor (S : zS) (x : Int32) : Nat → Int32
  | 0 => 31
  | i + 1 => if S.1 22 i = x then f_sor S x i &&& S.1 23 i else f_sor S x i
theorem lp_sortsOf (hn : n ≤ 6) (hS : S.1 18 5 = nI n) (i : Nat) (hi : i ≤ n) : Go (l, wX, D, ad, cA) 0 m_Hold_sortsOf (fun v S' => v = .int (f_sor S x n) ∧ S' = S) 5 [some (.ref 18), some (.int x), some (.int (f_sor S x i)), some (.int (nI i))] [] S := by
  refine (g_ld rfl rfl rfl (g_ld rfl rfl rfl (g_gi rfl rfl rfl rfl rfl (g_if rfl rfl (fun zc10 => (g_ld rfl rfl rfl (g_ri rfl rfl rfl ?_))) (fun zc10 => (g_ld rfl rfl rfl (g_c rfl rfl (g_if rfl rfl (fun zc16 => (g_ld rfl rfl rfl (g_ri rfl rfl rfl ?_))) (fun zc16 => (g_ld rfl rfl rfl (g_gr rfl rfl rfl rfl rfl (g_ld rfl rfl rfl (g_ald rfl rfl rfl ?_ (g_ld rfl rfl rfl (g_if rfl rfl (fun zc26 => (g_inc rfl rfl rfl rfl (g_go rfl ?_))) (fun zc26 => (g_ld rfl rfl rfl (g_ld rfl rfl rfl (g_gr rfl rfl rfl rfl rfl (g_ld rfl rfl rfl (g_ald rfl rfl rfl ?_ (g_bin rfl rfl (g_st rfl rfl rfl rfl rfl (g_inc rfl rfl rfl rfl (g_go rfl ?_)))))))))))))))))))))))))
  · rw [hS] at zc10
    have := le_n zc10
    rw [show i = n by omega]; exact ⟨rfl, rfl⟩
  · rw [hS] at zc10
    have h1 := nle_n zc10
    have := le_n (a := 6) zc16
    omega
  · rw [hS] at zc10
    exact vp_in_nI (Nat.lt_of_lt_of_le (nle_n zc10) hn) (by omega)
  · rw [hS] at zc10
    have h1 := nle_n zc10
    rw [nI_clamp (by omega)] at zc26
    have := lp_sortsOf hn hS (i + 1) h1
    rw [nI_succ, f_sor, if_neg zc26] at this
    exact this
  · rw [hS] at zc10
    exact vp_in_nI (Nat.lt_of_lt_of_le (nle_n zc10) hn) (by omega)
  · rw [hS] at zc10
    have h1 := nle_n zc10
    rw [nI_clamp (by omega)] at zc26 ⊢
    have := lp_sortsOf hn hS (i + 1) h1
    rw [nI_succ, f_sor, if_pos (Decidable.not_not.mp zc26)] at this
    exact this
termination_by n - i
theorem s_sortsOf (hn : n ≤ 6) (hS : S.1 18 5 = nI n) : Sp (l, wX, D, ad, cA) 0 m_Hold_sortsOf [.ref 18, .int x] S (fun v S' => v = .int (f_sor S x n) ∧ S' = S) := by
  refine Sp.of dk_Hold_sortsOf ok_Hold_sortsOf rfl (g_c rfl rfl (g_st rfl rfl rfl rfl rfl (g_c rfl rfl (g_st rfl rfl rfl rfl rfl ?_))))
  exact lp_sortsOf hn hS 0 (Nat.zero_le _)
/-- addSeen -/
theorem s_addSeen {m : Nat} (hn : n ≤ 6) (hS : S.1 18 5 = nI n) (hm : m < 3) (hz : z = 0 ∨ z = 1) : Sp (l, wX, D, ad, cA) 0 m_Hold_addSeen [.ref 18, .int x, .int (nI m), .int z] S (fun v S' => (n = 6 ∧ v = .int 0 ∧ S' = S) ∨ (n < 6 ∧ v = .int 1 ∧ S' = z_ui (z_ui (z_ui S 22 n x) 23 n (if z = 0 then 31 &&& (kcT m ^^^ (-1)) else kcT m)) 18 5 (nI (n + 1)))) := by
  refine Sp.of dk_Hold_addSeen ok_Hold_addSeen rfl (g_ld rfl rfl rfl (g_gi rfl rfl rfl rfl rfl (g_if rfl rfl (fun zc4 => (g_c rfl rfl (g_ri rfl rfl rfl ?_))) (fun zc4 => (g_ld rfl rfl rfl (g_gi rfl rfl rfl rfl rfl (g_c rfl rfl (g_if rfl rfl (fun zc13 => (g_c rfl rfl (g_ri rfl rfl rfl ?_))) (fun zc13 => (g_ld rfl rfl rfl (g_if rfl rfl (fun zc17 => (g_c rfl rfl (g_ri rfl rfl rfl ?_))) (fun zc17 => (g_ld rfl rfl rfl (g_c rfl rfl (g_if rfl rfl (fun zc22 => (g_gs rfl rfl rfl (g_ld rfl rfl rfl (g_tld rfl rfl ?_ (g_st rfl rfl rfl rfl rfl (g_ld rfl rfl rfl (g_gr rfl rfl rfl rfl rfl (g_ld rfl rfl rfl (g_gi rfl rfl rfl rfl rfl (g_ld rfl rfl rfl (g_ast rfl rfl rfl ?_ (g_ld rfl rfl rfl (g_gr rfl rfl rfl rfl rfl (g_ld rfl rfl rfl (g_gi rfl rfl rfl rfl rfl (g_ld rfl rfl rfl (g_if rfl rfl (fun zc53 => (g_c rfl rfl (g_ld rfl rfl rfl (g_c rfl rfl (g_bin rfl rfl (g_bin rfl rfl (g_ast rfl rfl rfl ?_ (g_ld rfl rfl rfl (g_dup rfl rfl (g_gi rfl rfl rfl rfl rfl (g_c rfl rfl (g_bin rfl rfl (g_pi rfl rfl rfl rfl rfl rfl rfl (g_c rfl rfl (g_ri rfl rfl rfl ?_))))))))))))))) (fun zc53 => (g_ld rfl rfl rfl (g_go rfl (g_ast rfl rfl rfl ?_ (g_ld rfl rfl rfl (g_dup rfl rfl (g_gi rfl rfl rfl rfl rfl (g_c rfl rfl (g_bin rfl rfl (g_pi rfl rfl rfl rfl rfl rfl rfl (g_c rfl rfl (g_ri rfl rfl rfl ?_))))))))))))))))))))))))))))) (fun zc22 => (g_c rfl rfl (g_ri rfl rfl rfl ?_))))))))))))))))))
  · exact absurd (hS ▸ zc4) (nI_pos (by omega))
  · rw [hS] at zc13
    exact Or.inl ⟨by have := le_n (a := 6) zc13; omega, rfl, rfl⟩
  · exact absurd zc17 (nI_pos (by omega))
  · exact vp_in_nI hm (by decide)
  · rw [hS] at zc13 ⊢
    exact vp_in_nI (nle_n (a := 6) zc13) (by omega)
  · rw [ui_ne (by decide), hS]
    rw [hS] at zc13
    exact vp_in_nI (nle_n (a := 6) zc13) (by omega)
  · rw [hS] at zc13
    refine Or.inr ⟨nle_n (a := 6) zc13, rfl, ?_⟩
    simp only [ui_ne (show 18 ≠ 22 by decide), ui_ne (show 18 ≠ 23 by decide), hS, nI_clamp (show n < 2 ^ 31 by omega), nI_clamp (show m < 2 ^ 31 by omega), if_pos zc53, nI_succ]
  · rw [ui_ne (by decide), hS]
    rw [hS] at zc13
    exact vp_in_nI (nle_n (a := 6) zc13) (by omega)
  · rw [hS] at zc13
    refine Or.inr ⟨nle_n (a := 6) zc13, rfl, ?_⟩
    simp only [ui_ne (show 18 ≠ 22 by decide), ui_ne (show 18 ≠ 23 by decide), hS, nI_clamp (show n < 2 ^ 31 by omega), nI_clamp (show m < 2 ^ 31 by omega), if_neg zc53, nI_succ]
  · exact absurd (nI_le (show m ≤ 2 by omega) (by omega)) zc22
/-! rows: r = 38 (made), 43 (drawn) -/
theorem s_radd (hr : r = 38 ∨ r = 43) (hn : n ≤ 15) (hS : S.1 r 1 = nI n) : Sp (l, wX, D, ad, cA) 0 m_Row_add [.ref r, .int x] S (fun v S' => (n = 15 ∧ v = .int 0 ∧ S' = S) ∨ (n < 15 ∧ v = .int 1 ∧ S' = z_ui (z_ui S (r + 1) n x) r 1 (nI (n + 1)))) := by
  rcases hr with rfl | rfl
  all_goals
    refine Sp.of dk_Row_add ok_Row_add rfl (g_ld rfl rfl rfl (g_gi rfl rfl rfl rfl rfl (g_if rfl rfl (fun zc4 => (g_c rfl rfl (g_ri rfl rfl rfl ?_))) (fun zc4 => (g_ld rfl rfl rfl (g_gi rfl rfl rfl rfl rfl (g_ld rfl rfl rfl (g_gr rfl rfl rfl rfl rfl (g_len rfl rfl rfl (g_if rfl rfl (fun zc16 => (g_ld rfl rfl rfl (g_gr rfl rfl rfl rfl rfl (g_ld rfl rfl rfl (g_gi rfl rfl rfl rfl rfl (g_ld rfl rfl rfl (g_ast rfl rfl rfl ?_ (g_ld rfl rfl rfl (g_dup rfl rfl (g_gi rfl rfl rfl rfl rfl (g_c rfl rfl (g_bin rfl rfl (g_pi rfl rfl rfl rfl rfl rfl rfl (g_c rfl rfl (g_ri rfl rfl rfl ?_))))))))))))))) (fun zc16 => (g_c rfl rfl (g_ri rfl rfl rfl ?_)))))))))))))
    · exact absurd (hS ▸ zc4) (nI_pos (by omega))
    · rw [hS] at zc16 ⊢
      exact vp_in_nI (lt_n (b := 15) zc16) (by omega)
    · rw [hS] at zc16
      refine Or.inr ⟨lt_n (b := 15) zc16, rfl, ?_⟩
      rw [ui_ne (by decide), hS, nI_clamp (by omega), nI_succ]
    · rw [hS] at zc16
      exact Or.inl ⟨by have := nlt_n (b := 15) zc16; omega, rfl, rfl⟩
end
