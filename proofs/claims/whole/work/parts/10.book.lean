/-! small helps; the program's own reading methods -/
theorem z_k1 {X : zX} {d : Nat} {y : zM} {Post : Value → zS → Prop} {n : Nat} {L : List (Option Value)} {rest : List Value} {S : zS} {v0 : Value} (k : Go X d y Post n L (z_pu v0 rest) S) : ∀ v S', (v = v0 ∧ S' = S) → Go X d y Post n L (z_pu v rest) S' := by
  rintro v S' ⟨rfl, rfl⟩
  exact k
def b2 (P : Prop) [Decidable P] : Int32 := if P then 1 else 0
theorem b2_0 {P : Prop} [Decidable P] : b2 P = 0 ↔ ¬ P := by unfold b2; split <;> simp_all
theorem b2_n {P : Prop} [Decidable P] : b2 P ≠ 0 ↔ P := by unfold b2; split <;> simp_all
theorem b2_t {P : Prop} [Decidable P] (h : P) : b2 P = 1 := if_pos h
theorem b2_f {P : Prop} [Decidable P] (h : ¬ P) : b2 P = 0 := if_neg h
theorem b2_nar {P : Prop} [Decidable P] : narrow .boolean (.int (b2 P)) = .int (b2 P) := by unfold b2; split <;> rfl
theorem i_ge {a b : Int32} (h : ¬ a < b) : b ≤ a := Int32.not_lt.mp h
theorem i_gt {a b : Int32} (h : ¬ a ≤ b) : b < a := Int32.not_le.mp h
theorem i_nl {a b : Int32} (h : b ≤ a) : ¬ a < b := Int32.not_lt.mpr h
theorem i_ng {a b : Int32} (h : b < a) : ¬ a ≤ b := Int32.not_le.mpr h
theorem v_int {a b : Int32} {S S' : zS} (h : a = b) (hs : S' = S) : Value.int a = Value.int b ∧ S' = S := ⟨by rw [h], hs⟩
def f_hc (S : zS) (r : Nat) (x : Int32) : Prop := 0 ≤ x ∧ x < S.1 r 7 ∧ x < 4
def f_par (S : zS) (r : Nat) (x : Int32) : Int32 := if 0 ≤ x ∧ x < 4 then S.1 (r + 2) x.toNatClampNeg else 0
def f_mem (S : zS) (r : Nat) (x : Int32) : Int32 := if 0 ≤ x ∧ x < 4 then S.1 (r + 3) x.toNatClampNeg else 0
def f_sta (S : zS) (r : Nat) (x : Int32) : Int32 := if 0 ≤ x ∧ x < 16 then S.1 (r + 5) x.toNatClampNeg else 0
def f_end (S : zS) (r : Nat) (x : Int32) : Int32 := if 0 ≤ x ∧ x < 16 then S.1 (r + 6) x.toNatClampNeg else 0
def f_sgn (S : zS) (r : Nat) (x : Int32) : Int32 := if 0 ≤ x ∧ x < 90 then S.1 (r + 4) x.toNatClampNeg else 0
section
variable {l : Launch} {D : va_G} {ad : Nat → Nat} {cA : ClassId} {d r : Nat} {x z : Int32} {S : zS}
theorem s_hasClass (hr : r = 3 ∨ r = 10) : Sp (l, wX, D, ad, cA) 0 m_Book_hasClass [.ref r, .int x] S (fun v S' => v = .int (b2 (0 ≤ x ∧ x < S.1 r 7 ∧ x < 4)) ∧ S' = S) := by
  rcases hr with rfl | rfl
  all_goals
    refine Sp.of dk_Book_hasClass ok_Book_hasClass rfl (g_ld rfl rfl rfl (g_if rfl rfl (fun zc1 => (g_c rfl rfl (g_ri rfl rfl rfl ?_))) (fun zc1 => (g_ld rfl rfl rfl (g_ld rfl rfl rfl (g_gi rfl rfl rfl rfl rfl (g_if rfl rfl (fun zc9 => (g_c rfl rfl (g_ri rfl rfl rfl ?_))) (fun zc9 => (g_ld rfl rfl rfl (g_c rfl rfl (g_if rfl rfl (fun zc14 => (g_c rfl rfl (g_ri rfl rfl rfl ?_))) (fun zc14 => (g_c rfl rfl (g_go rfl (g_ri rfl rfl rfl ?_)))))))))))))))
    · exact v_int (b2_f (fun h => absurd h.1 (i_ng zc1))).symm rfl
    · exact v_int (b2_f (fun h => absurd h.2.1 (i_nl zc9))).symm rfl
    · exact v_int (b2_f (fun h => absurd h.2.2 (i_nl zc14))).symm rfl
    · exact v_int (b2_t ⟨i_ge zc1, i_gt zc9, i_gt zc14⟩).symm rfl
theorem s_parametersOf (hr : r = 3 ∨ r = 10) : Sp (l, wX, D, ad, cA) 0 m_Book_parametersOf [.ref r, .int x] S (fun v S' => v = .int (f_par S r x) ∧ S' = S) := by
  rcases hr with rfl | rfl
  all_goals
    refine Sp.of dk_Book_parametersOf ok_Book_parametersOf rfl (g_ld rfl rfl rfl (g_if rfl rfl (fun zc1 => (g_c rfl rfl (g_ri rfl rfl rfl ?_))) (fun zc1 => (g_ld rfl rfl rfl (g_ld rfl rfl rfl (g_gr rfl rfl rfl rfl rfl (g_len rfl rfl rfl (g_if rfl rfl (fun zc10 => (g_c rfl rfl (g_ri rfl rfl rfl ?_))) (fun zc10 => (g_ld rfl rfl rfl (g_gr rfl rfl rfl rfl rfl (g_ld rfl rfl rfl (g_ald rfl rfl rfl ?_ (g_go rfl (g_ri rfl rfl rfl ?_)))))))))))))))
    · exact v_int (if_neg (fun h => absurd h.1 (i_ng zc1))).symm rfl
    · exact v_int (if_neg (fun h => absurd h.2 (i_nl zc10))).symm rfl
    · exact t_in (i_ge zc1) (i_gt zc10)
    · exact v_int (if_pos ⟨i_ge zc1, i_gt zc10⟩).symm rfl
theorem s_membersOf (hr : r = 3 ∨ r = 10) : Sp (l, wX, D, ad, cA) 0 m_Book_membersOf [.ref r, .int x] S (fun v S' => v = .int (f_mem S r x) ∧ S' = S) := by
  rcases hr with rfl | rfl
  all_goals
    refine Sp.of dk_Book_membersOf ok_Book_membersOf rfl (g_ld rfl rfl rfl (g_if rfl rfl (fun zc1 => (g_c rfl rfl (g_ri rfl rfl rfl ?_))) (fun zc1 => (g_ld rfl rfl rfl (g_ld rfl rfl rfl (g_gr rfl rfl rfl rfl rfl (g_len rfl rfl rfl (g_if rfl rfl (fun zc10 => (g_c rfl rfl (g_ri rfl rfl rfl ?_))) (fun zc10 => (g_ld rfl rfl rfl (g_gr rfl rfl rfl rfl rfl (g_ld rfl rfl rfl (g_ald rfl rfl rfl ?_ (g_go rfl (g_ri rfl rfl rfl ?_)))))))))))))))
    · exact v_int (if_neg (fun h => absurd h.1 (i_ng zc1))).symm rfl
    · exact v_int (if_neg (fun h => absurd h.2 (i_nl zc10))).symm rfl
    · exact t_in (i_ge zc1) (i_gt zc10)
    · exact v_int (if_pos ⟨i_ge zc1, i_gt zc10⟩).symm rfl
theorem s_startOf (hr : r = 3 ∨ r = 10) : Sp (l, wX, D, ad, cA) 0 m_Book_startOf [.ref r, .int x] S (fun v S' => v = .int (f_sta S r x) ∧ S' = S) := by
  rcases hr with rfl | rfl
  all_goals
    refine Sp.of dk_Book_startOf ok_Book_startOf rfl (g_ld rfl rfl rfl (g_if rfl rfl (fun zc1 => (g_c rfl rfl (g_ri rfl rfl rfl ?_))) (fun zc1 => (g_ld rfl rfl rfl (g_ld rfl rfl rfl (g_gr rfl rfl rfl rfl rfl (g_len rfl rfl rfl (g_if rfl rfl (fun zc10 => (g_c rfl rfl (g_ri rfl rfl rfl ?_))) (fun zc10 => (g_ld rfl rfl rfl (g_gr rfl rfl rfl rfl rfl (g_ld rfl rfl rfl (g_ald rfl rfl rfl ?_ (g_go rfl (g_ri rfl rfl rfl ?_)))))))))))))))
    · exact v_int (if_neg (fun h => absurd h.1 (i_ng zc1))).symm rfl
    · exact v_int (if_neg (fun h => absurd h.2 (i_nl zc10))).symm rfl
    · exact t_in (i_ge zc1) (i_gt zc10)
    · exact v_int (if_pos ⟨i_ge zc1, i_gt zc10⟩).symm rfl
theorem s_endOf (hr : r = 3 ∨ r = 10) : Sp (l, wX, D, ad, cA) 0 m_Book_endOf [.ref r, .int x] S (fun v S' => v = .int (f_end S r x) ∧ S' = S) := by
  rcases hr with rfl | rfl
  all_goals
    refine Sp.of dk_Book_endOf ok_Book_endOf rfl (g_ld rfl rfl rfl (g_if rfl rfl (fun zc1 => (g_c rfl rfl (g_ri rfl rfl rfl ?_))) (fun zc1 => (g_ld rfl rfl rfl (g_ld rfl rfl rfl (g_gr rfl rfl rfl rfl rfl (g_len rfl rfl rfl (g_if rfl rfl (fun zc10 => (g_c rfl rfl (g_ri rfl rfl rfl ?_))) (fun zc10 => (g_ld rfl rfl rfl (g_gr rfl rfl rfl rfl rfl (g_ld rfl rfl rfl (g_ald rfl rfl rfl ?_ (g_go rfl (g_ri rfl rfl rfl ?_)))))))))))))))
    · exact v_int (if_neg (fun h => absurd h.1 (i_ng zc1))).symm rfl
    · exact v_int (if_neg (fun h => absurd h.2 (i_nl zc10))).symm rfl
    · exact t_in (i_ge zc1) (i_gt zc10)
    · exact v_int (if_pos ⟨i_ge zc1, i_gt zc10⟩).symm rfl
theorem s_signAt (hr : r = 3 ∨ r = 10) : Sp (l, wX, D, ad, cA) 0 m_Book_signAt [.ref r, .int x] S (fun v S' => v = .int (f_sgn S r x) ∧ S' = S) := by
  rcases hr with rfl | rfl
  all_goals
    refine Sp.of dk_Book_signAt ok_Book_signAt rfl (g_ld rfl rfl rfl (g_if rfl rfl (fun zc1 => (g_c rfl rfl (g_ri rfl rfl rfl ?_))) (fun zc1 => (g_ld rfl rfl rfl (g_ld rfl rfl rfl (g_gr rfl rfl rfl rfl rfl (g_len rfl rfl rfl (g_if rfl rfl (fun zc10 => (g_c rfl rfl (g_ri rfl rfl rfl ?_))) (fun zc10 => (g_ld rfl rfl rfl (g_gr rfl rfl rfl rfl rfl (g_ld rfl rfl rfl (g_ald rfl rfl rfl ?_ (g_go rfl (g_ri rfl rfl rfl ?_)))))))))))))))
    · exact v_int (if_neg (fun h => absurd h.1 (i_ng zc1))).symm rfl
    · exact v_int (if_neg (fun h => absurd h.2 (i_nl zc10))).symm rfl
    · exact t_in (i_ge zc1) (i_gt zc10)
    · exact v_int (if_pos ⟨i_ge zc1, i_gt zc10⟩).symm rfl
theorem s_hasParameter (hr : r = 3 ∨ r = 10) : Sp (l, wX, D, ad, cA) 1 m_Book_hasParameter [.ref r, .int x, .int z] S (fun v S' => v = .int (b2 (0 ≤ z ∧ z < f_par S r x)) ∧ S' = S) := by
  rcases hr with rfl | rfl
  all_goals
    refine Sp.of dk_Book_hasParameter ok_Book_hasParameter rfl (g_ld rfl rfl rfl (g_if rfl rfl (fun zc1 => (g_c rfl rfl (g_ri rfl rfl rfl ?_))) (fun zc1 => (g_ld rfl rfl rfl (g_ld rfl rfl rfl (g_ld rfl rfl rfl (g_cv rfl (s_parametersOf (by decide)) (by omega) rfl rfl rfl rfl rfl rfl rfl rfl rfl (z_k1 (g_if rfl rfl (fun zc10 => (g_c rfl rfl (g_ri rfl rfl rfl ?_))) (fun zc10 => (g_c rfl rfl (g_go rfl (g_ri rfl rfl rfl ?_)))))))))))))
    · exact v_int (b2_f (fun h => absurd h.1 (i_ng zc1))).symm rfl
    · exact v_int (b2_f (fun h => absurd h.2 (i_nl zc10))).symm rfl
    · exact v_int (b2_t ⟨i_ge zc1, i_gt zc10⟩).symm rfl
theorem s_hasMember (hr : r = 3 ∨ r = 10) : Sp (l, wX, D, ad, cA) 1 m_Book_hasMember [.ref r, .int x, .int z] S (fun v S' => v = .int (b2 (0 ≤ z ∧ z < f_mem S r x)) ∧ S' = S) := by
  rcases hr with rfl | rfl
  all_goals
    refine Sp.of dk_Book_hasMember ok_Book_hasMember rfl (g_ld rfl rfl rfl (g_if rfl rfl (fun zc1 => (g_c rfl rfl (g_ri rfl rfl rfl ?_))) (fun zc1 => (g_ld rfl rfl rfl (g_ld rfl rfl rfl (g_ld rfl rfl rfl (g_cv rfl (s_membersOf (by decide)) (by omega) rfl rfl rfl rfl rfl rfl rfl rfl rfl (z_k1 (g_if rfl rfl (fun zc10 => (g_c rfl rfl (g_ri rfl rfl rfl ?_))) (fun zc10 => (g_c rfl rfl (g_go rfl (g_ri rfl rfl rfl ?_)))))))))))))
    · exact v_int (b2_f (fun h => absurd h.1 (i_ng zc1))).symm rfl
    · exact v_int (b2_f (fun h => absurd h.2 (i_nl zc10))).symm rfl
    · exact v_int (b2_t ⟨i_ge zc1, i_gt zc10⟩).symm rfl
theorem s_signsIn (hr : r = 3 ∨ r = 10) : Sp (l, wX, D, ad, cA) 1 m_Book_signsIn [.ref r, .int x] S (fun v S' => v = .int (f_end S r x - f_sta S r x) ∧ S' = S) := by
  rcases hr with rfl | rfl
  all_goals
    refine Sp.of dk_Book_signsIn ok_Book_signsIn rfl (g_ld rfl rfl rfl (g_ld rfl rfl rfl (g_cv rfl (s_endOf (by decide)) (by omega) rfl rfl rfl rfl rfl rfl rfl rfl rfl (z_k1 (g_ld rfl rfl rfl (g_ld rfl rfl rfl (g_cv rfl (s_startOf (by decide)) (by omega) rfl rfl rfl rfl rfl rfl rfl rfl rfl (z_k1 (g_bin rfl rfl (g_ri rfl rfl rfl ?_))))))))))
    exact ⟨rfl, rfl⟩
def f_abv (S : zS) (r : Nat) (x : Int32) : Int32 := if (0 ≤ x ∧ x < S.1 r 7 ∧ x < 4) ∧ 0 < f_end S r (12 + x) - f_sta S r (12 + x) then f_sgn S r (f_sta S r (12 + x)) else -1
theorem s_classAbove (hr : r = 3 ∨ r = 10) : Sp (l, wX, D, ad, cA) 2 m_Book_classAbove [.ref r, .int x] S (fun v S' => v = .int (f_abv S r x) ∧ S' = S) := by
  rcases hr with rfl | rfl
  all_goals
    refine Sp.of dk_Book_classAbove ok_Book_classAbove rfl (g_c rfl rfl (g_ld rfl rfl rfl (g_bin rfl rfl (g_st rfl rfl rfl rfl rfl (g_ld rfl rfl rfl (g_ld rfl rfl rfl (g_cv rfl (s_hasClass (by decide)) (by omega) rfl rfl rfl rfl rfl rfl rfl rfl rfl (z_k1 (g_if rfl rfl (fun zc10 => (g_c rfl rfl (g_ri rfl rfl rfl ?_))) (fun zc10 => (g_ld rfl rfl rfl (g_ld rfl rfl rfl (g_cv rfl (s_signsIn (by decide)) (by omega) rfl rfl rfl rfl rfl rfl rfl rfl rfl (z_k1 (g_if rfl rfl (fun zc18 => (g_c rfl rfl (g_ri rfl rfl rfl ?_))) (fun zc18 => (g_ld rfl rfl rfl (g_ld rfl rfl rfl (g_ld rfl rfl rfl (g_cv rfl (s_startOf (by decide)) (by omega) rfl rfl rfl rfl rfl rfl rfl rfl rfl (z_k1 (g_cv rfl (s_signAt (by decide)) (by omega) rfl rfl rfl rfl rfl rfl rfl rfl rfl (z_k1 (g_go rfl (g_ri rfl rfl rfl ?_)))))))))))))))))))))))))
    · exact v_int (if_neg (fun h => b2_0.mp zc10 h.1)).symm rfl
    · exact v_int (if_neg (fun h => absurd h.2 (i_nl zc18))).symm rfl
    · exact v_int (if_pos ⟨b2_n.mp zc10, i_gt zc18⟩).symm rfl
end
