/-! a closed type on the page -/
def clT (B : Bk) : List Nat → Nat → Bool
  | [], o => decide (o = 0)
  | _ :: _, 0 => false
  | c :: t, o + 1 => if 48 ≤ c ∧ c < 48 + bN B then clT B t (o + bP B (c - 48)) else false
theorem neg48 : ∀ c, c < 48 → ¬ (0 : Int32) ≤ nI c - 48 := by decide
section
variable {l : Launch} {D : va_G} {ad : Nat → Nat} {cA : ClassId} {x y z w : Int32} {S S' S0 : zS} {m : Mt} {n p k : Nat}
theorem drop_at {t : List Nat} {i : Nat} (hi : i < t.length) : t.drop i = t.getD i 0 :: t.drop (i + 1) := by
  rw [List.drop_eq_getElem_cons hi, List.getD_eq_getElem?_getD, List.getElem?_eq_getElem hi]
  rfl
theorem lp_closed (h : InvX S m) (hm : MOk m) : ∀ (k i o : Nat) (w : Option Value), i + k = (mP m).length → o ≤ 1 + 2 * i → Go (l, wX, D, ad, cA) 1 m_Book_isClosedType (fun v S' => v = .int (b2 (clT (mB m) ((mP m).drop i) o = true)) ∧ S' = S) 4 [some (.ref 3), some (.ref 1), some (.int (nI o)), some (.int (nI i)), w] [] S
  | 0, i, o, w, e, ho => by
    have h90 := hm.1
    have hd : (mP m).drop i = [] := List.drop_eq_nil_of_le (by omega)
    rw [hd, clT]
    refine (g_ld rfl rfl rfl (g_ld rfl rfl rfl (g_gi rfl rfl rfl rfl rfl (g_if rfl rfl (fun zc9 => (g_ld rfl rfl rfl (g_if rfl rfl (fun zc55 => (g_c rfl rfl (g_ri rfl rfl rfl ?_))) (fun zc55 => (g_c rfl rfl (g_go rfl (g_ri rfl rfl rfl ?_))))))) (fun zc9 => ?_)))))
    · rw [b2_f (by intro q; exact zc55 (by rw [of_decide_eq_true q]; rfl))]
      exact ⟨rfl, rfl⟩
    · have e0 : o = 0 := eq_n (b := 0) (Decidable.not_not.mp zc55)
      rw [b2_t (by rw [e0]; rfl)]
      exact ⟨rfl, rfl⟩
    · rw [h.1] at zc9
      have := nle_n zc9
      omega
  | k + 1, i, o, w, e, ho => by
    have h90 := hm.1
    have h4 := hm.2.2.1.1
    have hi : i < (mP m).length := by omega
    have hlet := let_at h hm hi
    have hc126 : (mP m).getD i 0 ≤ 126 := by
      rw [List.getD_eq_getElem?_getD, List.getElem?_eq_getElem hi]
      exact (hm.2.1 _ (List.getElem_mem hi)).2
    rw [drop_at hi]
    refine (g_ld rfl rfl rfl (g_ld rfl rfl rfl (g_gi rfl rfl rfl rfl rfl (g_if rfl rfl (fun zc9 => ?_) (fun zc9 => (g_ld rfl rfl rfl (g_ld rfl rfl rfl (g_cv rfl (s_letterAt) (by omega) rfl rfl rfl rfl rfl rfl rfl rfl rfl (z_k1 (g_c rfl rfl (g_bin rfl rfl (g_st rfl rfl rfl rfl rfl (g_ld rfl rfl rfl (g_if rfl rfl (fun zc23 => (g_c rfl rfl (g_ri rfl rfl rfl ?_))) (fun zc23 => (g_ld rfl rfl rfl (g_ld rfl rfl rfl (g_cv rfl (s_hasClass (by decide)) (by omega) rfl rfl rfl rfl rfl rfl rfl rfl rfl (z_k1 (g_if rfl rfl (fun zc32 => (g_ld rfl rfl rfl (g_ld rfl rfl rfl (g_ld rfl rfl rfl (g_cv rfl (s_parametersOf (by decide)) (by omega) rfl rfl rfl rfl rfl rfl rfl rfl rfl (z_k1 (g_c rfl rfl (g_bin rfl rfl (g_bin rfl rfl (g_st rfl rfl rfl rfl rfl (g_inc rfl rfl rfl rfl (g_go rfl ?_)))))))))))) (fun zc32 => (g_c rfl rfl (g_ri rfl rfl rfl ?_)))))))))))))))))))))))
    · rw [h.1] at zc9
      have := le_n zc9
      omega
    · have e0 : o = 0 := eq_n (b := 0) zc23
      rw [e0, clT, b2_f (by decide)]
      exact ⟨rfl, rfl⟩
    · have hq := b2_n.mp zc32
      rw [hlet, h.2.2.1.1] at hq
      have h48 : 48 ≤ (mP m).getD i 0 := Nat.le_of_not_lt (fun q => neg48 _ q hq.1)
      have ex : nI ((mP m).getD i 0) - 48 = nI ((mP m).getD i 0 - 48) := by
        rw [show (48 : Int32) = nI 48 from rfl, pk_sub (by omega)]
      rw [ex] at hq
      have hcn : (mP m).getD i 0 - 48 < bN (mB m) := lt_n hq.2.1
      have hP2 := hm.2.2.1.2.1 ((mP m).getD i 0 - 48)
      obtain ⟨o', eo⟩ : ∃ o', o = o' + 1 := ⟨o - 1, by
        have : o ≠ 0 := fun q => zc23 (by rw [q]; rfl)
        omega⟩
      subst eo
      have e1 : nI (o' + 1) + (nI (bP (mB m) ((mP m).getD i 0 - 48)) - 1) = nI (o' + bP (mB m) ((mP m).getD i 0 - 48)) := by
        rw [nI_succ, Int32.add_assoc, show (1 : Int32) + (nI (bP (mB m) ((mP m).getD i 0 - 48)) - 1) = nI (bP (mB m) ((mP m).getD i 0 - 48)) by rw [Int32.add_comm, Int32.sub_add_cancel], nI_add]
      rw [hlet, ex, bk_par h.2.2.1 hm.2.2.1 (by omega), e1, clT, if_pos ⟨h48, by omega⟩]
      have := lp_closed h hm k (i + 1) (o' + bP (mB m) ((mP m).getD i 0 - 48)) (some (.int (nI ((mP m).getD i 0 - 48)))) (by omega) (by omega)
      rw [nI_succ] at this
      exact this
    · have hq := b2_0.mp (Decidable.not_not.mp zc32)
      rw [hlet, h.2.2.1.1] at hq
      obtain ⟨o', eo⟩ : ∃ o', o = o' + 1 := ⟨o - 1, by
        have : o ≠ 0 := fun q => zc23 (by rw [q]; rfl)
        omega⟩
      subst eo
      have hn : ¬ (48 ≤ (mP m).getD i 0 ∧ (mP m).getD i 0 < 48 + bN (mB m)) := fun q => hq (by
        rw [show (48 : Int32) = nI 48 from rfl, pk_sub (by omega)]
        exact ⟨(in_n (n := 4) (show (mP m).getD i 0 - 48 < 4 by omega) (by omega)).1, nI_lt (by omega) (by omega), (in_n (n := 4) (show (mP m).getD i 0 - 48 < 4 by omega) (by omega)).2⟩)
      rw [clT, if_neg hn, b2_f (by decide)]
      exact ⟨rfl, rfl⟩
theorem s_closed (h : InvX S m) (hm : MOk m) : Sp (l, wX, D, ad, cA) 1 m_Book_isClosedType [.ref 3, .ref 1] S (fun v S' => v = .int (b2 (clT (mB m) (mP m) 1 = true)) ∧ S' = S) := by
  refine Sp.of dk_Book_isClosedType ok_Book_isClosedType rfl (g_c rfl rfl (g_st rfl rfl rfl rfl rfl (g_c rfl rfl (g_st rfl rfl rfl rfl rfl ?_))))
  exact lp_closed h hm (mP m).length 0 1 none (by omega) (by omega)
end
