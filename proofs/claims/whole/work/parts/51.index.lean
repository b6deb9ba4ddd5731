/-! indexOf of the text constant -/
def ixF (x : Int32) : Nat → Nat → Int32
  | 0, _ => -1
  | k + 1, i => if rafhv.getD i 0 = x then nI i else ixF x k (i + 1)
def f_ix (x : Int32) : Int32 := if 0 ≤ x ∧ x ≤ 255 then ixF x.toInt8.toInt32 5 0 else -1
section
variable {l : Launch} {D : va_G} {ad : Nat → Nat} {cA : ClassId} {x y z w : Int32} {S S' S0 : zS} {m : Mt} {n p k : Nat}
theorem s_isLatin1 : Sp (l, wX, D, ad, cA) 0 m_JS_isLatin1 [.ref 52] S (fun v S' => v = .int 1 ∧ S' = S) := by
  refine Sp.of dk_JS_isLatin1 ok_JS_isLatin1 rfl (g_gsz rfl rfl rfl (g_if rfl rfl (fun zc3 => (g_c rfl rfl (g_ri rfl rfl rfl ?_))) (fun zc3 => (g_ld rfl rfl rfl (g_sgc rfl rfl (by decide +kernel) (g_if rfl rfl (fun zc10 => (g_c rfl rfl (g_ri rfl rfl rfl ?_))) (fun zc10 => (g_c rfl rfl (g_go rfl (g_ri rfl rfl rfl ?_))))))))))
  · exact absurd zc3 (by decide)
  · exact absurd rfl zc10
  · exact ⟨rfl, rfl⟩
theorem s_coder : Sp (l, wX, D, ad, cA) 0 m_JS_coder [.ref 52] S (fun v S' => v = .int 0 ∧ S' = S) := by
  refine Sp.of dk_JS_coder ok_JS_coder rfl (g_gsz rfl rfl rfl (g_if rfl rfl (fun zc3 => (g_c rfl rfl (g_ri rfl rfl rfl ?_))) (fun zc3 => (g_ld rfl rfl rfl (g_sgc rfl rfl (by decide +kernel) (g_go rfl (g_ri rfl rfl rfl ?_)))))))
  · exact absurd zc3 (by decide)
  · exact ⟨rfl, rfl⟩
theorem s_tlength : Sp (l, wX, D, ad, cA) 1 m_JS_length [.ref 52] S (fun v S' => v = .int 5 ∧ S' = S) := by
  refine Sp.of dk_JS_length ok_JS_length rfl (g_ld rfl rfl rfl (g_sgv rfl rfl (by decide +kernel) (g_blen rfl (g_ld rfl rfl rfl (g_cvs rfl (s_coder) (by decide) rfl rfl rfl rfl rfl rfl rfl (z_k1 (g_bin rfl rfl (g_ri rfl rfl rfl ?_))))))))
  exact ⟨rfl, rfl⟩
theorem s_canEncode : Sp (l, wX, D, ad, cA) 0 m_JL_canEncode [.int x] S (fun v S' => v = .int (b2 (0 ≤ x ∧ x ≤ 255)) ∧ S' = S) := by
  refine Sp.of dk_JL_canEncode ok_JL_canEncode rfl (g_ld rfl rfl rfl (g_if rfl rfl (fun zc1 => (g_c rfl rfl (g_ri rfl rfl rfl ?_))) (fun zc1 => (g_ld rfl rfl rfl (g_c rfl rfl (g_if rfl rfl (fun zc8 => (g_c rfl rfl (g_ri rfl rfl rfl ?_))) (fun zc8 => (g_c rfl rfl (g_go rfl (g_ri rfl rfl rfl ?_))))))))))
  · exact v_int (b2_f (fun h => absurd h.1 (i_ng zc1))).symm rfl
  · exact v_int (b2_f (fun h => absurd h.2 (i_ng zc8))).symm rfl
  · exact v_int (b2_t ⟨i_ge zc1, Int32.not_lt.mp zc8⟩).symm rfl
theorem lp_index : ∀ (k i : Nat), i + k = 5 → Go (l, wX, D, ad, cA) 0 m_JL_indexOfChar (fun v S' => v = .int (ixF z k i) ∧ S' = S) 7 [some (.ref 53), some (.int x), some (.int 0), some (.int 5), some (.int z), some (.int (nI i))] [] S
  | 0, i, e => by
    have e6 : i = 5 := by omega
    subst e6
    refine (g_ld rfl rfl rfl (g_ld rfl rfl rfl (g_if rfl rfl (fun zc10 => (g_c rfl rfl (g_ri rfl rfl rfl ?_))) (fun zc10 => ?_))))
    · exact ⟨rfl, rfl⟩
    · exact absurd (by decide) zc10
  | k + 1, i, e => by
    have hi : i < 5 := by omega
    refine (g_ld rfl rfl rfl (g_ld rfl rfl rfl (g_if rfl rfl (fun zc10 => (g_c rfl rfl (g_ri rfl rfl rfl ?_))) (fun zc10 => (g_ld rfl rfl rfl (g_ld rfl rfl rfl (g_bld rfl ?_ (g_ld rfl rfl rfl (g_if rfl rfl (fun zc19 => (g_inc rfl rfl rfl rfl (g_go rfl ?_))) (fun zc19 => (g_ld rfl rfl rfl (g_ri rfl rfl rfl ?_))))))))))))
    · have := le_n (a := 5) zc10
      omega
    · exact vp_in_nI hi (by decide)
    · rw [nI_clamp (by omega)] at zc19
      rw [ixF, if_neg zc19]
      have := lp_index k (i + 1) (by omega)
      rw [nI_succ] at this
      exact this
    · rw [nI_clamp (by omega)] at zc19
      rw [ixF, if_pos (Decidable.not_not.mp zc19)]
      exact ⟨rfl, rfl⟩
theorem s_indexOfChar : Sp (l, wX, D, ad, cA) 0 m_JL_indexOfChar [.ref 53, .int x, .int 0, .int 5] S (fun v S' => v = .int (ixF x.toInt8.toInt32 5 0) ∧ S' = S) := by
  refine Sp.of dk_JL_indexOfChar ok_JL_indexOfChar rfl (g_ld rfl rfl rfl (g_un rfl rfl (g_st rfl rfl rfl rfl rfl (g_ld rfl rfl rfl (g_st rfl rfl rfl rfl rfl ?_)))))
  exact lp_index 5 0 (by omega)
theorem s_indexOfL : Sp (l, wX, D, ad, cA) 1 m_JL_indexOf [.ref 53, .int x, .int 0, .int 5] S (fun v S' => v = .int (f_ix x) ∧ S' = S) := by
  unfold f_ix
  refine Sp.of dk_JL_indexOf ok_JL_indexOf rfl (g_ld rfl rfl rfl (g_cs rfl (s_canEncode) (by omega) rfl rfl rfl rfl rfl rfl (z_k1 (g_if rfl rfl (fun zc4 => (g_ld rfl rfl rfl (g_c rfl rfl (g_max rfl rfl (g_st rfl rfl rfl rfl rfl (g_ld rfl rfl rfl (g_ld rfl rfl rfl (g_blen rfl (g_min rfl rfl (g_st rfl rfl rfl rfl rfl ?_)))))))))) (fun zc4 => (g_c rfl rfl (g_ri rfl rfl rfl ?_)))))))
  · have a := b2_n.mp zc4
    rw [if_pos a]
    refine (g_ld rfl rfl rfl (g_ld rfl rfl rfl (g_if rfl rfl (fun zc24 => (g_ld rfl rfl rfl (g_ld rfl rfl rfl (g_ld rfl rfl rfl (g_ld rfl rfl rfl (g_cs rfl (s_indexOfChar) (by omega) rfl rfl rfl rfl rfl rfl (z_k1 (g_ri rfl rfl rfl ?_)))))))) (fun zc24 => (g_c rfl rfl (g_ri rfl rfl rfl ?_))))))
    · exact ⟨rfl, rfl⟩
    · exact absurd (by decide) zc24
  · have a := b2_0.mp (Decidable.not_not.mp zc4)
    rw [if_neg a]
    exact ⟨rfl, rfl⟩
theorem s_indexOf2 : Sp (l, wX, D, ad, cA) 2 m_JS_indexOf2 [.ref 52, .int x, .int 0] S (fun v S' => v = .int (f_ix x) ∧ S' = S) := by
  refine Sp.of dk_JS_indexOf2 ok_JS_indexOf2 rfl (g_ld rfl rfl rfl (g_cvs rfl (s_isLatin1) (by decide) rfl rfl rfl rfl rfl rfl rfl (z_k1 (g_if rfl rfl (fun zc4 => ?_) (fun zc4 => (g_ld rfl rfl rfl (g_sgv rfl rfl (by decide +kernel) (g_ld rfl rfl rfl (g_ld rfl rfl rfl (g_ld rfl rfl rfl (g_cvs rfl (s_tlength) (by decide) rfl rfl rfl rfl rfl rfl rfl (z_k1 (g_cs rfl (s_indexOfL) (by omega) rfl rfl rfl rfl rfl rfl (z_k1 (g_go rfl (g_ri rfl rfl rfl ?_))))))))))))))))
  · exact absurd zc4 (by decide)
  · exact ⟨rfl, rfl⟩
theorem s_indexOf : Sp (l, wX, D, ad, cA) 3 m_JS_indexOf [.ref 52, .int x] S (fun v S' => v = .int (f_ix x) ∧ S' = S) := by
  refine Sp.of dk_JS_indexOf ok_JS_indexOf rfl (g_ld rfl rfl rfl (g_ld rfl rfl rfl (g_c rfl rfl (g_cvs rfl (s_indexOf2) (by decide) rfl rfl rfl rfl rfl rfl rfl (z_k1 (g_ri rfl rfl rfl ?_))))))
  exact ⟨rfl, rfl⟩
end
def kIx (c : Nat) : Int32 := if c = 114 then 0 else if c = 97 then 1 else if c = 102 then 2 else if c = 104 then 3 else if c = 118 then 4 else -1
theorem kIx_eq : ∀ c, c < 127 → f_ix ((nI c).toUInt32 % 65536).toInt32 = kIx c := by decide
