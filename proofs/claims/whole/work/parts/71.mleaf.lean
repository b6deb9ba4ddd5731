/-! the reference: leaves -/
theorem ho_M : ∀ j, j ≠ 43 → wM.2.2.1 0 j ≠ some none := by
  have h : ∀ j, j < 43 → wM.2.2.1 0 j ≠ some none := by decide
  intro j hj
  by_cases h43 : j < 43
  · exact h j h43
  · obtain ⟨k, rfl⟩ : ∃ k, j = 44 + k := ⟨j - 44, by omega⟩
    have hl : (fkM.getD 0 []).length = 44 := by decide
    show (fkM.getD 0 []).getD (44 + k) none ≠ some none
    rw [List.getD_eq_getElem?_getD, List.getElem?_eq_none (by omega)]
    decide
theorem i64_le {x y : Int32} : x.toInt64 ≤ y.toInt64 ↔ x ≤ y := by
  rw [Int64.le_iff_toInt_le, Int32.le_iff_toInt_le, Int32.toInt_toInt64, Int32.toInt_toInt64]
def cpyF (f g : Nat → Int32) (n : Nat) : Nat → Int32 := fun j => if j < n then f j else g j
theorem cpyF_0 {f g : Nat → Int32} : cpyF f g 0 = g := by funext j; simp [cpyF]
theorem cpyF_s {f g : Nat → Int32} {n : Nat} : upd (cpyF f g n) n (f n) = cpyF f g (n + 1) := by
  funext j
  unfold upd cpyF
  by_cases h : j = n
  · rw [if_pos h, if_pos (by omega), h]
  · rw [if_neg h]
    by_cases h2 : j < n
    · rw [if_pos h2, if_pos (by omega)]
    · rw [if_neg h2, if_neg (by omega)]
theorem cpyF_at {f g : Nat → Int32} {n j : Nat} (h : j < n) : cpyF f g n j = f j := if_pos h
section
variable {l : Launch} {D : va_G} {ad : Nat → Nat} {cA : ClassId} {x y z w : Int32} {S S' S0 : zS} {m : Mt} {B : Bk} {n p k r q c : Nat}
theorem s_in {a b c : Int64} : Sp (l, wM, D, ad, cA) 0 m_M_in [.long a, .long b, .long c] S (fun v S' => v = .int (b2 (b ≤ a ∧ a ≤ c)) ∧ S' = S) := by
  refine Sp.of dk_M_in ok_M_in rfl (g_ld rfl rfl rfl (g_ld rfl rfl rfl (g_bin rfl rfl (g_if rfl rfl (fun zc3 => (g_c rfl rfl (g_ri rfl rfl rfl ?_))) (fun zc3 => (g_ld rfl rfl rfl (g_ld rfl rfl rfl (g_bin rfl rfl (g_if rfl rfl (fun zc10 => (g_c rfl rfl (g_ri rfl rfl rfl ?_))) (fun zc10 => (g_c rfl rfl (g_go rfl (g_ri rfl rfl rfl ?_)))))))))))))
  · exact v_int (b2_f (fun h => absurd ((lg_cmp_lt _ _).mp zc3) (Int64.not_lt.mpr h.1))).symm rfl
  · exact v_int (b2_f (fun h => absurd ((lg_cmp_gt _ _).mp zc10) (Int64.not_lt.mpr h.2))).symm rfl
  · exact v_int (b2_t ⟨Int64.not_lt.mp (fun q => zc3 ((lg_cmp_lt _ _).mpr q)), Int64.not_lt.mp (fun q => zc10 ((lg_cmp_gt _ _).mpr q))⟩).symm rfl
theorem s_inE {lo hi : Int32} {a b : Int64} (h1 : a = lo.toInt64) (h2 : b = hi.toInt64) : Sp (l, wM, D, ad, cA) 0 m_M_in [.long x.toInt64, .long a, .long b] S (fun v S' => v = .int (b2 (lo ≤ x ∧ x ≤ hi)) ∧ S' = S) := by
  subst h1
  subst h2
  have := s_in (l := l) (D := D) (ad := ad) (cA := cA) (S := S) (a := x.toInt64) (b := lo.toInt64) (c := hi.toInt64)
  have e : b2 (lo.toInt64 ≤ x.toInt64 ∧ x.toInt64 ≤ hi.toInt64) = b2 (lo ≤ x ∧ x ≤ hi) := by
    by_cases h : lo ≤ x ∧ x ≤ hi
    · rw [b2_t h, b2_t ⟨i64_le.mpr h.1, i64_le.mpr h.2⟩]
    · rw [b2_f h, b2_f (fun q => h ⟨i64_le.mp q.1, i64_le.mp q.2⟩)]
  rw [e] at this
  exact this
theorem copy_loop {N : Nat} (hr : Nat.blt r 27 = true) (hq : Nat.blt q 27 = true) (hrN : wM.2.1 r = .inr N) (hqN : wM.2.1 q = .inr N) (hN : N < 2 ^ 31) (hne : r ≠ q) : ∀ k i, i + k = N → Go (l, wM, D, ad, cA) 0 m_M_copy (fun v S' => v = .null ∧ S' = z_uf S q (cpyF (S.1 r) (S.1 q) N)) 2 [some (.ref r), some (.ref q), some (.int (nI i))] [] (z_uf S q (cpyF (S.1 r) (S.1 q) i))
  | 0, i, e => by
    refine (g_ld rfl rfl rfl (g_ld rfl rfl rfl (g_len rfl hr hrN (g_if rfl rfl (fun zc5 => (g_rv rfl rfl ?_)) (fun zc5 => ?_)))))
    · rw [show i = N by omega]; exact ⟨rfl, rfl⟩
    · exact absurd (nI_le (show N ≤ i by omega) (by omega)) zc5
  | k + 1, i, e => by
    refine (g_ld rfl rfl rfl (g_ld rfl rfl rfl (g_len rfl hr hrN (g_if rfl rfl (fun zc5 => ?_) (fun zc5 => (g_ld rfl rfl rfl (g_ld rfl rfl rfl (g_ld rfl rfl rfl (g_ld rfl rfl rfl (g_ald rfl hr hrN ?_ (g_ast rfl hq hqN ?_ (g_inc rfl rfl rfl rfl (g_go rfl ?_)))))))))))))
    · exact absurd zc5 (nI_ge (by omega) hN)
    · exact vp_in_nI (by omega) hN
    · exact vp_in_nI (by omega) hN
    · rw [nI_clamp (by omega), ui_uf, uf_ne hne, cpyF_s]
      have e : nI i + 1 = nI (i + 1) := (nI_succ i).symm
      rw [e]
      exact copy_loop hr hq hrN hqN hN hne k (i + 1) (by omega)
theorem s_copyM {N : Nat} (hr : Nat.blt r 27 = true) (hq : Nat.blt q 27 = true) (hrN : wM.2.1 r = .inr N) (hqN : wM.2.1 q = .inr N) (hN : N < 2 ^ 31) (hne : r ≠ q) : Sp (l, wM, D, ad, cA) 0 m_M_copy [.ref r, .ref q] S (fun v S' => v = .null ∧ S' = z_uf S q (cpyF (S.1 r) (S.1 q) N)) := by
  refine Sp.of dk_M_copy ok_M_copy rfl (g_c rfl rfl (g_st rfl rfl rfl rfl rfl ?_))
  have h := copy_loop (l := l) (D := D) (ad := ad) (cA := cA) (S := S) hr hq hrN hqN hN hne N 0 (by omega)
  rw [cpyF_0, uf_id] at h
  exact h
theorem s_signOfM : Sp (l, wM, D, ad, cA) 0 m_M_signOf [.int x] S (fun v S' => v = .int (if x = 120 then 10 else if x = 121 then 11 else x - 48) ∧ S' = S) := by
  refine Sp.of dk_M_signOf ok_M_signOf rfl (g_ld rfl rfl rfl (g_c rfl rfl (g_if rfl rfl (fun zc3 => (g_ld rfl rfl rfl (g_c rfl rfl (g_if rfl rfl (fun zc14 => (g_ld rfl rfl rfl (g_c rfl rfl (g_bin rfl rfl (g_ri rfl rfl rfl ?_))))) (fun zc14 => (g_c rfl rfl (g_go rfl (g_ri rfl rfl rfl ?_)))))))) (fun zc3 => (g_c rfl rfl (g_go rfl (g_ri rfl rfl rfl ?_)))))))
  · rw [if_neg zc3, if_neg zc14]; exact ⟨rfl, rfl⟩
  · rw [if_neg zc3, if_pos (Decidable.not_not.mp zc14)]; exact ⟨rfl, rfl⟩
  · rw [if_pos (Decidable.not_not.mp zc3)]; exact ⟨rfl, rfl⟩
theorem s_kindBy (hc : c < 127) : Sp (l, wM, D, ad, cA) 0 m_M_kindBy [.int (nI c)] S (fun v S' => v = .int (kIx c) ∧ S' = S) := by
  unfold kIx
  refine Sp.of dk_M_kindBy ok_M_kindBy rfl (g_ld rfl rfl rfl ?_)
  by_cases h1 : c = 114
  · rw [if_pos h1, h1]
    refine g_lsw (off := 51) (tgt := 52) rfl (by decide) (by decide) (by decide) (g_c rfl rfl (g_ri rfl rfl rfl ?_))
    exact ⟨rfl, rfl⟩
  rw [if_neg h1]
  by_cases h2 : c = 97
  · rw [if_pos h2, h2]
    refine g_lsw (off := 53) (tgt := 54) rfl (by decide) (by decide) (by decide) (g_c rfl rfl (g_ri rfl rfl rfl ?_))
    exact ⟨rfl, rfl⟩
  rw [if_neg h2]
  by_cases h3 : c = 102
  · rw [if_pos h3, h3]
    refine g_lsw (off := 55) (tgt := 56) rfl (by decide) (by decide) (by decide) (g_c rfl rfl (g_ri rfl rfl rfl ?_))
    exact ⟨rfl, rfl⟩
  rw [if_neg h3]
  by_cases h4 : c = 104
  · rw [if_pos h4, h4]
    refine g_lsw (off := 57) (tgt := 58) rfl (by decide) (by decide) (by decide) (g_c rfl rfl (g_ri rfl rfl rfl ?_))
    exact ⟨rfl, rfl⟩
  rw [if_neg h4]
  by_cases h5 : c = 118
  · rw [if_pos h5, h5]
    refine g_lsw (off := 59) (tgt := 60) rfl (by decide) (by decide) (by decide) (g_c rfl rfl (g_ri rfl rfl rfl ?_))
    exact ⟨rfl, rfl⟩
  rw [if_neg h5]
  have ho : ∀ c, c < 127 → (c = 114 ∨ c = 97 ∨ c = 102 ∨ c = 104 ∨ c = 118 ∨ Op.lookupswitch.offset [(97, 53), (102, 55), (104, 57), (114, 51), (118, 59)] 61 (nI c).toInt = 61) := by decide
  have ho2 : Op.lookupswitch.offset [(97, 53), (102, 55), (104, 57), (114, 51), (118, 59)] 61 (nI c).toInt = 61 := by
    rcases ho c hc with g | g | g | g | g | g
    · exact absurd g h1
    · exact absurd g h2
    · exact absurd g h3
    · exact absurd g h4
    · exact absurd g h5
    · exact g
  refine g_lsw (off := 61) (tgt := 62) rfl (by decide) ho2 (by decide) (g_c rfl rfl (g_ri rfl rfl rfl ?_))
  exact ⟨rfl, rfl⟩
theorem s_waysBy (hc : c < 5) : Sp (l, wM, D, ad, cA) 0 m_M_waysBy [.int (nI c)] S (fun v S' => v = .int (nI (kwn c)) ∧ S' = S) := by
  refine Sp.of dk_M_waysBy ok_M_waysBy rfl (g_ld rfl rfl rfl ?_)
  match c, hc with
  | 0, _ =>
    refine g_tout (tgt := 34) rfl (by decide) (by decide) (g_c rfl rfl (g_ri rfl rfl rfl ?_))
    exact ⟨rfl, rfl⟩
  | 1, _ =>
    refine g_tin (off := 27) (tgt := 28) rfl (by decide) (by decide) (by decide) (by decide) (g_c rfl rfl (g_ri rfl rfl rfl ?_))
    exact ⟨rfl, rfl⟩
  | 2, _ =>
    refine g_tin (off := 29) (tgt := 30) rfl (by decide) (by decide) (by decide) (by decide) (g_c rfl rfl (g_ri rfl rfl rfl ?_))
    exact ⟨rfl, rfl⟩
  | 3, _ =>
    refine g_tin (off := 31) (tgt := 32) rfl (by decide) (by decide) (by decide) (by decide) (g_c rfl rfl (g_ri rfl rfl rfl ?_))
    exact ⟨rfl, rfl⟩
  | 4, _ =>
    refine g_tout (tgt := 34) rfl (by decide) (by decide) (g_c rfl rfl (g_ri rfl rfl rfl ?_))
    exact ⟨rfl, rfl⟩
theorem s_turned : Sp (l, wM, D, ad, cA) 0 m_M_turned [.int x] S (fun v S' => v = .int (x >>> (1 &&& 31) ||| x <<< (1 &&& 31) &&& 2) ∧ S' = S) := by
  refine Sp.of dk_M_turned ok_M_turned rfl (g_ld rfl rfl rfl (g_c rfl rfl (g_bin rfl rfl (g_ld rfl rfl rfl (g_c rfl rfl (g_bin rfl rfl (g_c rfl rfl (g_bin rfl rfl (g_bin rfl rfl (g_ri rfl rfl rfl ?_))))))))))
  exact ⟨rfl, rfl⟩
theorem thrM_eq : ∀ w, w < 4 → ∀ q, q < 4 → ((if nI q &&& 1 = 1 then nI w else (0 : Int32)) ||| (if nI q &&& 2 = 2 then (nI w >>> (1 &&& 31) ||| nI w <<< (1 &&& 31) &&& 2) else 0)) = nI (thr w q) := by decide +kernel
theorem s_throughM {w q : Nat} (hw : w < 4) (hq : q < 4) : Sp (l, wM, D, ad, cA) 1 m_M_through [.int (nI w), .int (nI q)] S (fun v S' => v = .int (nI (thr w q)) ∧ S' = S) := by
  have h := thrM_eq w hw q hq
  refine Sp.of dk_M_through ok_M_through rfl (g_ld rfl rfl rfl (g_c rfl rfl (g_bin rfl rfl (g_c rfl rfl (g_if rfl rfl (fun zc4 => (g_c rfl rfl (g_ld rfl rfl rfl (g_c rfl rfl (g_bin rfl rfl (g_c rfl rfl (g_if rfl rfl (fun zc16 => (g_c rfl rfl (g_bin rfl rfl (g_ri rfl rfl rfl ?_)))) (fun zc16 => (g_ld rfl rfl rfl (g_cs rfl (s_turned) (by omega) rfl rfl rfl rfl rfl rfl (z_k1 (g_go rfl (g_bin rfl rfl (g_ri rfl rfl rfl ?_)))))))))))))) (fun zc4 => (g_ld rfl rfl rfl (g_go rfl (g_ld rfl rfl rfl (g_c rfl rfl (g_bin rfl rfl (g_c rfl rfl (g_if rfl rfl (fun zc16 => (g_c rfl rfl (g_bin rfl rfl (g_ri rfl rfl rfl ?_)))) (fun zc16 => (g_ld rfl rfl rfl (g_cs rfl (s_turned) (by omega) rfl rfl rfl rfl rfl rfl (z_k1 (g_go rfl (g_bin rfl rfl (g_ri rfl rfl rfl ?_))))))))))))))))))))
  · rw [if_neg zc4, if_neg zc16] at h; exact v_int h rfl
  · rw [if_neg zc4, if_pos (Decidable.not_not.mp zc16)] at h; exact v_int h rfl
  · rw [if_pos (Decidable.not_not.mp zc4), if_neg zc16] at h; exact v_int h rfl
  · rw [if_pos (Decidable.not_not.mp zc4), if_pos (Decidable.not_not.mp zc16)] at h; exact v_int h rfl
end
