/-! the draft: addSign; begin -/
section
variable {l : Launch} {D : va_G} {ad : Nat → Nat} {cA : ClassId} {x y z w : Int32} {S S' : zS} {m : Mt} {n p k : Nat}
theorem s_addSign (hk : k < 90) (hS : S.1 10 6 = nI k) (hp : p < 16) (hx : x = nI p) : Sp (l, wX, D, ad, cA) 0 m_Book_addSign [.ref 10, .int x, .int z] S (fun v S' => v = .int 1 ∧ S' = z_ui (z_ui (z_ui S 14 k z) 10 6 (nI (k + 1))) 16 p (nI (k + 1))) := by
  subst hx
  have hl : nI p < 16 := nI_lt (b := 16) hp (by decide)
  have hk2 : ¬ (90 : Int32) ≤ nI k := fun q => by have := le_n (a := 90) q; omega
  refine Sp.of dk_Book_addSign ok_Book_addSign rfl (g_ld rfl rfl rfl (g_gi rfl rfl rfl rfl rfl (g_if rfl rfl (fun zc4 => (g_c rfl rfl (g_ri rfl rfl rfl ?_))) (fun zc4 => (g_ld rfl rfl rfl (g_gi rfl rfl rfl rfl rfl (g_ld rfl rfl rfl (g_gr rfl rfl rfl rfl rfl (g_len rfl rfl rfl (g_if rfl rfl (fun zc16 => (g_c rfl rfl (g_ri rfl rfl rfl ?_))) (fun zc16 => (g_ld rfl rfl rfl (g_if rfl rfl (fun zc20 => (g_c rfl rfl (g_ri rfl rfl rfl ?_))) (fun zc20 => (g_ld rfl rfl rfl (g_ld rfl rfl rfl (g_gr rfl rfl rfl rfl rfl (g_len rfl rfl rfl (g_if rfl rfl (fun zc29 => (g_ld rfl rfl rfl (g_gr rfl rfl rfl rfl rfl (g_ld rfl rfl rfl (g_gi rfl rfl rfl rfl rfl (g_ld rfl rfl rfl (g_ast rfl rfl rfl ?_ (g_ld rfl rfl rfl (g_dup rfl rfl (g_gi rfl rfl rfl rfl rfl (g_c rfl rfl (g_bin rfl rfl (g_pi rfl rfl rfl rfl rfl rfl rfl (g_ld rfl rfl rfl (g_gr rfl rfl rfl rfl rfl (g_ld rfl rfl rfl (g_ld rfl rfl rfl (g_gi rfl rfl rfl rfl rfl (g_ast rfl rfl rfl ?_ (g_c rfl rfl (g_ri rfl rfl rfl ?_))))))))))))))))))))) (fun zc29 => (g_c rfl rfl (g_ri rfl rfl rfl ?_))))))))))))))))))))))
  · rw [hS] at zc4
    exact absurd zc4 (nI_pos (by omega))
  · rw [hS] at zc16
    exact absurd zc16 hk2
  · exact absurd zc20 (nI_pos (by omega))
  · rw [hS]
    exact vp_in_nI hk (by decide)
  · exact vp_in_nI hp (by decide)
  · refine ⟨rfl, ?_⟩
    rw [ui_ne (by decide), hS, ui_at, pk_us, nI_clamp (by omega), nI_clamp (by omega), nI_succ]
  · exact absurd hl zc29
end
