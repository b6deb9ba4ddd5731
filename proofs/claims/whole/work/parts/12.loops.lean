/-! loops that read -/
theorem le_n {a b : Nat} (h : nI a ≤ nI b) (ha : a < 2 ^ 31 := by omega) (hb : b < 2 ^ 31 := by omega) : a ≤ b := (nI_leI ha hb).mp h
theorem nle_n {a b : Nat} (h : ¬ nI a ≤ nI b) (ha : a < 2 ^ 31 := by omega) (hb : b < 2 ^ 31 := by omega) : b < a := Nat.lt_of_not_le (fun q => h ((nI_leI ha hb).mpr q))
theorem lt_n {a b : Nat} (h : nI a < nI b) (ha : a < 2 ^ 31 := by omega) (hb : b < 2 ^ 31 := by omega) : a < b := (nI_ltI ha hb).mp h
theorem nlt_n {a b : Nat} (h : ¬ nI a < nI b) (ha : a < 2 ^ 31 := by omega) (hb : b < 2 ^ 31 := by omega) : b ≤ a := Nat.le_of_not_lt (fun q => h ((nI_ltI ha hb).mpr q))
theorem eq_n {a b : Nat} (h : nI a = nI b) (ha : a < 2 ^ 31 := by omega) (hb : b < 2 ^ 31 := by omega) : a = b := (nI_eq ha hb).mp h
def sumF (f : Nat → Int32) : Nat → Int32
  | 0 => 0
  | n + 1 => sumF f n + f n
section
variable {l : Launch} {D : va_G} {ad : Nat → Nat} {cA : ClassId} {d r q n : Nat} {x z : Int32} {S : zS}
theorem lp_allParameters (hn : n ≤ 4) (hS : S.1 3 7 = nI n) (i : Nat) (hi : i ≤ n) : Go (l, wX, D, ad, cA) 1 m_Book_allParameters (fun v S' => v = .int (sumF (fun k => f_par S 3 (nI k)) n) ∧ S' = S) 4 [some (.ref 3), some (.int (sumF (fun k => f_par S 3 (nI k)) i)), some (.int (nI i))] [] S := by
  refine (g_ld rfl rfl rfl (g_ld rfl rfl rfl (g_gi rfl rfl rfl rfl rfl (g_if rfl rfl (fun zc9 => (g_ld rfl rfl rfl (g_ri rfl rfl rfl ?_))) (fun zc9 => (g_ld rfl rfl rfl (g_ld rfl rfl rfl (g_ld rfl rfl rfl (g_cv rfl (s_parametersOf (by decide)) (by omega) rfl rfl rfl rfl rfl rfl rfl rfl rfl (z_k1 (g_bin rfl rfl (g_st rfl rfl rfl rfl rfl (g_inc rfl rfl rfl rfl (g_go rfl ?_))))))))))))))
  · rw [hS] at zc9
    have := le_n zc9
    rw [show i = n by omega]; exact ⟨rfl, rfl⟩
  · rw [hS] at zc9
    have h1 := nle_n zc9
    have := lp_allParameters hn hS (i + 1) h1
    rw [nI_succ] at this
    exact this
termination_by n - i
theorem s_allParameters (hn : n ≤ 4) (hS : S.1 3 7 = nI n) : Sp (l, wX, D, ad, cA) 1 m_Book_allParameters [.ref 3] S (fun v S' => v = .int (sumF (fun k => f_par S 3 (nI k)) n) ∧ S' = S) := by
  refine Sp.of dk_Book_allParameters ok_Book_allParameters rfl (g_c rfl rfl (g_st rfl rfl rfl rfl rfl (g_c rfl rfl (g_st rfl rfl rfl rfl rfl ?_))))
  exact lp_allParameters hn hS 0 (Nat.zero_le _)
theorem lp_allMembers (hn : n ≤ 4) (hS : S.1 3 7 = nI n) (i : Nat) (hi : i ≤ n) : Go (l, wX, D, ad, cA) 1 m_Book_allMembers (fun v S' => v = .int (sumF (fun k => f_mem S 3 (nI k)) n) ∧ S' = S) 4 [some (.ref 3), some (.int (sumF (fun k => f_mem S 3 (nI k)) i)), some (.int (nI i))] [] S := by
  refine (g_ld rfl rfl rfl (g_ld rfl rfl rfl (g_gi rfl rfl rfl rfl rfl (g_if rfl rfl (fun zc9 => (g_ld rfl rfl rfl (g_ri rfl rfl rfl ?_))) (fun zc9 => (g_ld rfl rfl rfl (g_ld rfl rfl rfl (g_ld rfl rfl rfl (g_cv rfl (s_membersOf (by decide)) (by omega) rfl rfl rfl rfl rfl rfl rfl rfl rfl (z_k1 (g_bin rfl rfl (g_st rfl rfl rfl rfl rfl (g_inc rfl rfl rfl rfl (g_go rfl ?_))))))))))))))
  · rw [hS] at zc9
    have := le_n zc9
    rw [show i = n by omega]; exact ⟨rfl, rfl⟩
  · rw [hS] at zc9
    have h1 := nle_n zc9
    have := lp_allMembers hn hS (i + 1) h1
    rw [nI_succ] at this
    exact this
termination_by n - i
theorem s_allMembers (hn : n ≤ 4) (hS : S.1 3 7 = nI n) : Sp (l, wX, D, ad, cA) 1 m_Book_allMembers [.ref 3] S (fun v S' => v = .int (sumF (fun k => f_mem S 3 (nI k)) n) ∧ S' = S) := by
  refine Sp.of dk_Book_allMembers ok_Book_allMembers rfl (g_c rfl rfl (g_st rfl rfl rfl rfl rfl (g_c rfl rfl (g_st rfl rfl rfl rfl rfl ?_))))
  exact lp_allMembers hn hS 0 (Nat.zero_le _)
def f_pl (S : zS) (k : Nat) : Int32 := if f_par S 3 (nI k) = 0 then 1 else 0
theorem lp_howManyPlain (hn : n ≤ 4) (hS : S.1 3 7 = nI n) (i : Nat) (hi : i ≤ n) : Go (l, wX, D, ad, cA) 1 m_Book_howManyPlain (fun v S' => v = .int (sumF (f_pl S) n) ∧ S' = S) 4 [some (.ref 3), some (.int (sumF (f_pl S) i)), some (.int (nI i))] [] S := by
  refine (g_ld rfl rfl rfl (g_ld rfl rfl rfl (g_gi rfl rfl rfl rfl rfl (g_if rfl rfl (fun zc9 => (g_ld rfl rfl rfl (g_ri rfl rfl rfl ?_))) (fun zc9 => (g_ld rfl rfl rfl (g_ld rfl rfl rfl (g_cv rfl (s_parametersOf (by decide)) (by omega) rfl rfl rfl rfl rfl rfl rfl rfl rfl (z_k1 (g_if rfl rfl (fun zc17 => (g_inc rfl rfl rfl rfl (g_go rfl ?_))) (fun zc17 => (g_inc rfl rfl rfl rfl (g_inc rfl rfl rfl rfl (g_go rfl ?_))))))))))))))
  · rw [hS] at zc9
    have := le_n zc9
    rw [show i = n by omega]; exact ⟨rfl, rfl⟩
  · rw [hS] at zc9
    have h1 := nle_n zc9
    have := lp_howManyPlain hn hS (i + 1) h1
    rw [nI_succ, sumF, f_pl, if_neg zc17, Int32.add_zero] at this
    exact this
  · rw [hS] at zc9
    have h1 := nle_n zc9
    have := lp_howManyPlain hn hS (i + 1) h1
    rw [nI_succ, sumF, f_pl, if_pos (Decidable.not_not.mp zc17)] at this
    exact this
termination_by n - i
theorem s_howManyPlain (hn : n ≤ 4) (hS : S.1 3 7 = nI n) : Sp (l, wX, D, ad, cA) 1 m_Book_howManyPlain [.ref 3] S (fun v S' => v = .int (sumF (f_pl S) n) ∧ S' = S) := by
  refine Sp.of dk_Book_howManyPlain ok_Book_howManyPlain rfl (g_c rfl rfl (g_st rfl rfl rfl rfl rfl (g_c rfl rfl (g_st rfl rfl rfl rfl rfl ?_))))
  exact lp_howManyPlain hn hS 0 (Nat.zero_le _)
/-- plainClass: by what is left, from class i on -/
def f_plc (S : zS) : Nat → Nat → Int32 → Int32
  | 0, _, _ => 0
  | k + 1, i, o => if f_par S 3 (nI i) = 0 then (if o = 0 then nI i else f_plc S k (i + 1) (o + -1)) else f_plc S k (i + 1) o
theorem lp_plainClass (hn : n ≤ 4) (hS : S.1 3 7 = nI n) (w : Int32) (i : Nat) (hi : i ≤ n) (o : Int32) : Go (l, wX, D, ad, cA) 1 m_Book_plainClass (fun v S' => v = .int (f_plc S (n - i) i o) ∧ S' = S) 4 [some (.ref 3), some (.int w), some (.int o), some (.int (nI i))] [] S := by
  refine (g_ld rfl rfl rfl (g_ld rfl rfl rfl (g_gi rfl rfl rfl rfl rfl (g_if rfl rfl (fun zc9 => (g_c rfl rfl (g_ri rfl rfl rfl ?_))) (fun zc9 => (g_ld rfl rfl rfl (g_ld rfl rfl rfl (g_cv rfl (s_parametersOf (by decide)) (by omega) rfl rfl rfl rfl rfl rfl rfl rfl rfl (z_k1 (g_if rfl rfl (fun zc17 => (g_inc rfl rfl rfl rfl (g_go rfl ?_))) (fun zc17 => (g_ld rfl rfl rfl (g_if rfl rfl (fun zc21 => (g_inc rfl rfl rfl rfl (g_inc rfl rfl rfl rfl (g_go rfl ?_)))) (fun zc21 => (g_ld rfl rfl rfl (g_ri rfl rfl rfl ?_))))))))))))))))
  · rw [hS] at zc9
    have := le_n zc9
    rw [show n - i = 0 by omega]; exact ⟨rfl, rfl⟩
  · rw [hS] at zc9
    have h1 := nle_n zc9
    have := lp_plainClass hn hS w (i + 1) h1 o
    rw [show n - i = (n - (i + 1)) + 1 by omega, f_plc, if_neg zc17]
    rw [nI_succ] at this
    exact this
  · rw [hS] at zc9
    have h1 := nle_n zc9
    have := lp_plainClass hn hS w (i + 1) h1 (o + -1)
    rw [show n - i = (n - (i + 1)) + 1 by omega, f_plc, if_pos (Decidable.not_not.mp zc17), if_neg zc21]
    rw [nI_succ] at this
    exact this
  · rw [hS] at zc9
    have h1 := nle_n zc9
    rw [show n - i = (n - (i + 1)) + 1 by omega, f_plc, if_pos (Decidable.not_not.mp zc17), if_pos (Decidable.not_not.mp zc21)]
    exact ⟨rfl, rfl⟩
termination_by n - i
theorem s_plainClass (hn : n ≤ 4) (hS : S.1 3 7 = nI n) : Sp (l, wX, D, ad, cA) 1 m_Book_plainClass [.ref 3, .int x] S (fun v S' => v = .int (f_plc S n 0 x) ∧ S' = S) := by
  refine Sp.of dk_Book_plainClass ok_Book_plainClass rfl (g_ld rfl rfl rfl (g_st rfl rfl rfl rfl rfl (g_c rfl rfl (g_st rfl rfl rfl rfl rfl ?_))))
  exact lp_plainClass hn hS x 0 (Nat.zero_le _) x
/-- howManyAbove -/
def f_hma (S : zS) : Nat → Int32 → Int32 → Int32
  | 0, _, m => m
  | k + 1, a, m => if a = -1 then m else f_hma S k (f_abv S 3 a) (m + 1)
theorem lp_howManyAbove (w : Int32) (i : Nat) (hi : i ≤ 4) (a m : Int32) : Go (l, wX, D, ad, cA) 3 m_Book_howManyAbove (fun v S' => v = .int (f_hma S (4 - i) a m) ∧ S' = S) 11 [some (.ref 3), some (.int w), some (.int a), some (.int m), some (.int (nI i))] [] S := by
  refine (g_ld rfl rfl rfl (g_c rfl rfl (g_if rfl rfl (fun zc14 => (g_ld rfl rfl rfl (g_ri rfl rfl rfl ?_))) (fun zc14 => (g_ld rfl rfl rfl (g_c rfl rfl (g_if rfl rfl (fun zc19 => (g_ld rfl rfl rfl (g_ri rfl rfl rfl ?_))) (fun zc19 => (g_inc rfl rfl rfl rfl (g_ld rfl rfl rfl (g_ld rfl rfl rfl (g_cv rfl (s_classAbove (by decide)) (by omega) rfl rfl rfl rfl rfl rfl rfl rfl rfl (z_k1 (g_st rfl rfl rfl rfl rfl (g_inc rfl rfl rfl rfl (g_go rfl ?_))))))))))))))))
  · have := le_n (a := 4) zc14
    rw [show 4 - i = 0 by omega]; exact ⟨rfl, rfl⟩
  · have h1 := nle_n (a := 4) zc14
    rw [show 4 - i = (4 - (i + 1)) + 1 by omega, f_hma, if_pos zc19]; exact ⟨rfl, rfl⟩
  · have h1 := nle_n (a := 4) zc14
    have := lp_howManyAbove w (i + 1) h1 (f_abv S 3 a) (m + 1)
    rw [show 4 - i = (4 - (i + 1)) + 1 by omega, f_hma, if_neg zc19]
    rw [nI_succ] at this
    exact this
termination_by 4 - i
theorem s_howManyAbove : Sp (l, wX, D, ad, cA) 3 m_Book_howManyAbove [.ref 3, .int x] S (fun v S' => v = .int (f_hma S 4 (f_abv S 3 x) 0) ∧ S' = S) := by
  refine Sp.of dk_Book_howManyAbove ok_Book_howManyAbove rfl (g_ld rfl rfl rfl (g_ld rfl rfl rfl (g_cv rfl (s_classAbove (by decide)) (by omega) rfl rfl rfl rfl rfl rfl rfl rfl rfl (z_k1 (g_st rfl rfl rfl rfl rfl (g_c rfl rfl (g_st rfl rfl rfl rfl rfl (g_c rfl rfl (g_st rfl rfl rfl rfl rfl ?_)))))))))
  exact lp_howManyAbove x 0 (by omega) (f_abv S 3 x) 0
/-- isClosedType -/
def f_ict (S : zS) : Nat → Nat → Int32 → Bool
  | 0, _, o => decide (o = 0)
  | k + 1, i, o => if o = 0 then false else if 0 ≤ f_let S (nI i) - 48 ∧ f_let S (nI i) - 48 < S.1 3 7 ∧ f_let S (nI i) - 48 < 4 then f_ict S k (i + 1) (o + (f_par S 3 (f_let S (nI i) - 48) - 1)) else false
theorem lp_isClosedType (hn : n ≤ 90) (hS : S.1 1 1 = nI n) (w : Option Value) (i : Nat) (hi : i ≤ n) (o : Int32) : Go (l, wX, D, ad, cA) 1 m_Book_isClosedType (fun v S' => v = .int (b2 (f_ict S (n - i) i o = true)) ∧ S' = S) 4 [some (.ref 3), some (.ref 1), some (.int o), some (.int (nI i)), w] [] S := by
  refine g_weak (L' := [some (.ref 3), some (.ref 1), some (.int o), some (.int (nI i)), none]) (z_le_s (z_le_s (z_le_s (z_le_s (z_le_n z_le_0))))) ?_
  refine (g_ld rfl rfl rfl (g_ld rfl rfl rfl (g_gi rfl rfl rfl rfl rfl (g_if rfl rfl (fun zc9 => (g_ld rfl rfl rfl (g_if rfl rfl (fun zc55 => (g_c rfl rfl (g_ri rfl rfl rfl ?_))) (fun zc55 => (g_c rfl rfl (g_go rfl (g_ri rfl rfl rfl ?_))))))) (fun zc9 => (g_ld rfl rfl rfl (g_ld rfl rfl rfl (g_cv rfl (s_letterAt) (by omega) rfl rfl rfl rfl rfl rfl rfl rfl rfl (z_k1 (g_c rfl rfl (g_bin rfl rfl (g_st rfl rfl rfl rfl rfl (g_ld rfl rfl rfl (g_if rfl rfl (fun zc23 => (g_c rfl rfl (g_ri rfl rfl rfl ?_))) (fun zc23 => (g_ld rfl rfl rfl (g_ld rfl rfl rfl (g_cv rfl (s_hasClass (by decide)) (by omega) rfl rfl rfl rfl rfl rfl rfl rfl rfl (z_k1 (g_if rfl rfl (fun zc32 => (g_ld rfl rfl rfl (g_ld rfl rfl rfl (g_ld rfl rfl rfl (g_cv rfl (s_parametersOf (by decide)) (by omega) rfl rfl rfl rfl rfl rfl rfl rfl rfl (z_k1 (g_c rfl rfl (g_bin rfl rfl (g_bin rfl rfl (g_st rfl rfl rfl rfl rfl (g_inc rfl rfl rfl rfl (g_go rfl ?_)))))))))))) (fun zc32 => (g_c rfl rfl (g_ri rfl rfl rfl ?_)))))))))))))))))))))))
  · rw [hS] at zc9
    have := le_n zc9
    rw [show n - i = 0 by omega]
    exact v_int (b2_f (by simp [f_ict]; exact zc55)).symm rfl
  · rw [hS] at zc9
    have := le_n zc9
    rw [show n - i = 0 by omega]
    exact v_int (b2_t (by simp [f_ict]; exact Decidable.not_not.mp zc55)).symm rfl
  · rw [hS] at zc9
    have h1 := nle_n zc9
    rw [show n - i = (n - (i + 1)) + 1 by omega]
    exact v_int (b2_f (by rw [f_ict, if_pos zc23]; simp)).symm rfl
  · rw [hS] at zc9
    have h1 := nle_n zc9
    have := lp_isClosedType hn hS (some (.int (f_let S (nI i) - 48))) (i + 1) h1 (o + (f_par S 3 (f_let S (nI i) - 48) - 1))
    rw [show n - i = (n - (i + 1)) + 1 by omega, f_ict, if_neg zc23, if_pos (b2_n.mp zc32)]
    rw [nI_succ] at this
    exact this
  · rw [hS] at zc9
    have h1 := nle_n zc9
    rw [show n - i = (n - (i + 1)) + 1 by omega]
    exact v_int (b2_f (by rw [f_ict, if_neg zc23, if_neg (b2_0.mp (Decidable.not_not.mp zc32))]; simp)).symm rfl
termination_by n - i
theorem s_isClosedType (hn : n ≤ 90) (hS : S.1 1 1 = nI n) : Sp (l, wX, D, ad, cA) 1 m_Book_isClosedType [.ref 3, .ref 1] S (fun v S' => v = .int (b2 (f_ict S n 0 1 = true)) ∧ S' = S) := by
  refine Sp.of dk_Book_isClosedType ok_Book_isClosedType rfl (g_c rfl rfl (g_st rfl rfl rfl rfl rfl (g_c rfl rfl (g_st rfl rfl rfl rfl rfl ?_))))
  exact lp_isClosedType hn hS none 0 (Nat.zero_le _) 1
/-- behind -/
def f_bh (S : zS) (q : Nat) : Nat → Nat → Int32 → Nat
  | 0, i, _ => i
  | k + 1, i, o => if o ≤ 0 then i else f_bh S q k (i + 1) (o + (f_par S 3 (S.1 q i) - 1))
theorem par_out {r : Nat} (h : ¬ (0 ≤ x ∧ x < 4)) : f_par S r x - 1 = -1 := by
  rw [f_par, if_neg h]; rfl
theorem lp_behind {N : Nat} (hq : (q = 21 ∧ N = 120) ∨ (q = 41 ∧ N = 34)) (w : Int32) : ∀ (k i : Nat) (o : Int32) (u : Option Value), N - i = k → i ≤ N → Go (l, wX, D, ad, cA) 0 m_Book_behind (fun v S' => v = .int (nI (f_bh S q (N - i) i o)) ∧ S' = S) 13 [some (.ref 3), some (.ref q), some (.int w), some (.int o), some (.int (nI i)), u] [] S := by
  rcases hq with ⟨rfl, rfl⟩ | ⟨rfl, rfl⟩
  · intro k
    induction k using Nat.strongRecOn with
    | ind k ih =>
      intro i o u hk hi
      refine g_weak (L' := [some (.ref 3), some (.ref 21), some (.int w), some (.int o), some (.int (nI i)), none]) (z_le_s (z_le_s (z_le_s (z_le_s (z_le_s (z_le_n z_le_0)))))) ?_
      refine (g_ld rfl rfl rfl (g_ld rfl rfl rfl (g_len rfl rfl rfl (g_if rfl rfl (fun zc17 => (g_ld rfl rfl rfl (g_ri rfl rfl rfl ?_))) (fun zc17 => (g_ld rfl rfl rfl (g_if rfl rfl (fun zc21 => (g_ld rfl rfl rfl (g_ri rfl rfl rfl ?_))) (fun zc21 => (g_ld rfl rfl rfl (g_ld rfl rfl rfl (g_ald rfl rfl rfl ?_ (g_st rfl rfl rfl rfl rfl (g_ld rfl rfl rfl (g_ld rfl rfl rfl (g_if rfl rfl (fun zc33 => (g_c rfl rfl (g_bin rfl rfl (g_st rfl rfl rfl rfl rfl (g_inc rfl rfl rfl rfl (g_go rfl ?_)))))) (fun zc33 => (g_ld rfl rfl rfl (g_ld rfl rfl rfl (g_gr rfl rfl rfl rfl rfl (g_len rfl rfl rfl (g_if rfl rfl (fun zc43 => (g_c rfl rfl (g_bin rfl rfl (g_st rfl rfl rfl rfl rfl (g_inc rfl rfl rfl rfl (g_go rfl ?_)))))) (fun zc43 => (g_ld rfl rfl rfl (g_gr rfl rfl rfl rfl rfl (g_ld rfl rfl rfl (g_ald rfl rfl rfl ?_ (g_c rfl rfl (g_bin rfl rfl (g_go rfl (g_bin rfl rfl (g_st rfl rfl rfl rfl rfl (g_inc rfl rfl rfl rfl (g_go rfl ?_)))))))))))))))))))))))))))))))))
      · have := le_n zc17
        rw [Nat.sub_eq_zero_of_le this]; exact ⟨rfl, rfl⟩
      · have h1 := nle_n zc17
        rw [← Nat.sub_add_cancel (Nat.sub_pos_of_lt h1), f_bh, if_pos zc21]; exact ⟨rfl, rfl⟩
      · exact vp_in_nI (nle_n zc17) (by omega)
      · have h1 := nle_n zc17
        have hcl : (nI i).toNatClampNeg = i := nI_clamp (by omega)
        rw [hcl] at zc33 ⊢
        rw [← Nat.sub_add_cancel (Nat.sub_pos_of_lt h1), f_bh, if_neg zc21, par_out (fun h => absurd h.1 (i_ng zc33))]
        rw [show nI i + 1 = nI (i + 1) from (nI_succ i).symm]
        exact ih _ (by omega) (i + 1) _ _ rfl h1
      · have h1 := nle_n zc17
        have hcl : (nI i).toNatClampNeg = i := nI_clamp (by omega)
        rw [hcl] at zc43 ⊢
        rw [← Nat.sub_add_cancel (Nat.sub_pos_of_lt h1), f_bh, if_neg zc21, par_out (fun h => absurd h.2 (i_nl zc43))]
        rw [show nI i + 1 = nI (i + 1) from (nI_succ i).symm]
        exact ih _ (by omega) (i + 1) _ _ rfl h1
      · exact t_in (i_ge zc33) (i_gt zc43)
      · have h1 := nle_n zc17
        have hcl : (nI i).toNatClampNeg = i := nI_clamp (by omega)
        rw [hcl] at zc33 zc43 ⊢
        have hpr : f_par S 3 (S.1 21 i) = S.1 5 (S.1 21 i).toNatClampNeg := if_pos ⟨i_ge zc33, i_gt zc43⟩
        rw [← Nat.sub_add_cancel (Nat.sub_pos_of_lt h1), f_bh, if_neg zc21, hpr]
        rw [show nI i + 1 = nI (i + 1) from (nI_succ i).symm]
        exact ih _ (by omega) (i + 1) _ _ rfl h1
  · intro k
    induction k using Nat.strongRecOn with
    | ind k ih =>
      intro i o u hk hi
      refine g_weak (L' := [some (.ref 3), some (.ref 41), some (.int w), some (.int o), some (.int (nI i)), none]) (z_le_s (z_le_s (z_le_s (z_le_s (z_le_s (z_le_n z_le_0)))))) ?_
      refine (g_ld rfl rfl rfl (g_ld rfl rfl rfl (g_len rfl rfl rfl (g_if rfl rfl (fun zc17 => (g_ld rfl rfl rfl (g_ri rfl rfl rfl ?_))) (fun zc17 => (g_ld rfl rfl rfl (g_if rfl rfl (fun zc21 => (g_ld rfl rfl rfl (g_ri rfl rfl rfl ?_))) (fun zc21 => (g_ld rfl rfl rfl (g_ld rfl rfl rfl (g_ald rfl rfl rfl ?_ (g_st rfl rfl rfl rfl rfl (g_ld rfl rfl rfl (g_ld rfl rfl rfl (g_if rfl rfl (fun zc33 => (g_c rfl rfl (g_bin rfl rfl (g_st rfl rfl rfl rfl rfl (g_inc rfl rfl rfl rfl (g_go rfl ?_)))))) (fun zc33 => (g_ld rfl rfl rfl (g_ld rfl rfl rfl (g_gr rfl rfl rfl rfl rfl (g_len rfl rfl rfl (g_if rfl rfl (fun zc43 => (g_c rfl rfl (g_bin rfl rfl (g_st rfl rfl rfl rfl rfl (g_inc rfl rfl rfl rfl (g_go rfl ?_)))))) (fun zc43 => (g_ld rfl rfl rfl (g_gr rfl rfl rfl rfl rfl (g_ld rfl rfl rfl (g_ald rfl rfl rfl ?_ (g_c rfl rfl (g_bin rfl rfl (g_go rfl (g_bin rfl rfl (g_st rfl rfl rfl rfl rfl (g_inc rfl rfl rfl rfl (g_go rfl ?_)))))))))))))))))))))))))))))))))
      · have := le_n zc17
        rw [Nat.sub_eq_zero_of_le this]; exact ⟨rfl, rfl⟩
      · have h1 := nle_n zc17
        rw [← Nat.sub_add_cancel (Nat.sub_pos_of_lt h1), f_bh, if_pos zc21]; exact ⟨rfl, rfl⟩
      · exact vp_in_nI (nle_n zc17) (by omega)
      · have h1 := nle_n zc17
        have hcl : (nI i).toNatClampNeg = i := nI_clamp (by omega)
        rw [hcl] at zc33 ⊢
        rw [← Nat.sub_add_cancel (Nat.sub_pos_of_lt h1), f_bh, if_neg zc21, par_out (fun h => absurd h.1 (i_ng zc33))]
        rw [show nI i + 1 = nI (i + 1) from (nI_succ i).symm]
        exact ih _ (by omega) (i + 1) _ _ rfl h1
      · have h1 := nle_n zc17
        have hcl : (nI i).toNatClampNeg = i := nI_clamp (by omega)
        rw [hcl] at zc43 ⊢
        rw [← Nat.sub_add_cancel (Nat.sub_pos_of_lt h1), f_bh, if_neg zc21, par_out (fun h => absurd h.2 (i_nl zc43))]
        rw [show nI i + 1 = nI (i + 1) from (nI_succ i).symm]
        exact ih _ (by omega) (i + 1) _ _ rfl h1
      · exact t_in (i_ge zc33) (i_gt zc43)
      · have h1 := nle_n zc17
        have hcl : (nI i).toNatClampNeg = i := nI_clamp (by omega)
        rw [hcl] at zc33 zc43 ⊢
        have hpr : f_par S 3 (S.1 41 i) = S.1 5 (S.1 41 i).toNatClampNeg := if_pos ⟨i_ge zc33, i_gt zc43⟩
        rw [← Nat.sub_add_cancel (Nat.sub_pos_of_lt h1), f_bh, if_neg zc21, hpr]
        rw [show nI i + 1 = nI (i + 1) from (nI_succ i).symm]
        exact ih _ (by omega) (i + 1) _ _ rfl h1
theorem s_behind {N : Nat} (hq : (q = 21 ∧ N = 120) ∨ (q = 41 ∧ N = 34)) (hn : n ≤ N) : Sp (l, wX, D, ad, cA) 0 m_Book_behind [.ref 3, .ref q, .int (nI n)] S (fun v S' => v = .int (nI (f_bh S q (N - n) n 1)) ∧ S' = S) := by
  have hN : N < 2 ^ 31 := by rcases hq with ⟨-, rfl⟩ | ⟨-, rfl⟩ <;> omega
  refine Sp.of dk_Book_behind ok_Book_behind rfl (g_c rfl rfl (g_st rfl rfl rfl rfl rfl (g_ld rfl rfl rfl (g_if rfl rfl (fun zc3 => (g_ld rfl rfl rfl (g_st rfl rfl rfl rfl rfl ?_))) (fun zc3 => (g_c rfl rfl (g_go rfl (g_st rfl rfl rfl rfl rfl ?_))))))))
  · exact lp_behind hq (nI n) _ n 1 _ rfl hn
  · exact absurd (i_ge (nI_pos (by omega))) zc3
end
