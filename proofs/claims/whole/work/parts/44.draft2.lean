/-! the draft: addClass, beginType, addSign -/
section
variable {l : Launch} {D : va_G} {ad : Nat → Nat} {cA : ClassId} {x y z w : Int32} {S S' : zS} {m : Mt} {n p k : Nat}
theorem s_addClass (hn : n < 4) (hS : S.1 10 7 = nI n) : Sp (l, wX, D, ad, cA) 0 m_Book_addClass [.ref 10, .int x] S (fun v S' => v = .int 1 ∧ S' = z_ui (z_ui S 12 n x) 10 7 (nI (n + 1))) := by
  have hp : ¬ nI n < 0 := nI_pos (by omega)
  have hl : nI n < 4 := nI_lt (b := 4) hn (by decide)
  refine Sp.of dk_Book_addClass ok_Book_addClass rfl (g_ld rfl rfl rfl (g_gi rfl rfl rfl rfl rfl (g_if rfl rfl (fun zc4 => (g_c rfl rfl (g_ri rfl rfl rfl ?_))) (fun zc4 => (g_ld rfl rfl rfl (g_gi rfl rfl rfl rfl rfl (g_c rfl rfl (g_if rfl rfl (fun zc12 => (g_ld rfl rfl rfl (g_gr rfl rfl rfl rfl rfl (g_ld rfl rfl rfl (g_gi rfl rfl rfl rfl rfl (g_ld rfl rfl rfl (g_ast rfl rfl rfl ?_ (g_ld rfl rfl rfl (g_dup rfl rfl (g_gi rfl rfl rfl rfl rfl (g_c rfl rfl (g_bin rfl rfl (g_pi rfl rfl rfl rfl rfl rfl rfl (g_c rfl rfl (g_ri rfl rfl rfl ?_))))))))))))))) (fun zc12 => (g_c rfl rfl (g_ri rfl rfl rfl ?_)))))))))))
  · rw [hS] at zc4
    exact absurd zc4 hp
  · rw [hS]
    exact vp_in_nI hn (by decide)
  · refine ⟨rfl, ?_⟩
    rw [ui_ne (by decide), hS, nI_clamp (by omega), nI_succ]
  · rw [hS] at zc12
    exact absurd hl zc12
theorem s_beginType (hp : p < 16) (hx : x = nI p) : Sp (l, wX, D, ad, cA) 0 m_Book_beginType [.ref 10, .int x] S (fun v S' => v = .null ∧ S' = z_ui (z_ui S 15 p (S.1 10 6)) 16 p (S.1 10 6)) := by
  subst hx
  have hl : ¬ (16 : Int32) ≤ nI p := fun q => by have := le_n (a := 16) q; omega
  refine Sp.of dk_Book_beginType ok_Book_beginType rfl (g_ld rfl rfl rfl (g_if rfl rfl (fun zc1 => (g_rv rfl rfl ?_)) (fun zc1 => (g_ld rfl rfl rfl (g_ld rfl rfl rfl (g_gr rfl rfl rfl rfl rfl (g_len rfl rfl rfl (g_if rfl rfl (fun zc10 => (g_rv rfl rfl ?_)) (fun zc10 => (g_ld rfl rfl rfl (g_gr rfl rfl rfl rfl rfl (g_ld rfl rfl rfl (g_ld rfl rfl rfl (g_gi rfl rfl rfl rfl rfl (g_ast rfl rfl rfl ?_ (g_ld rfl rfl rfl (g_gr rfl rfl rfl rfl rfl (g_ld rfl rfl rfl (g_ld rfl rfl rfl (g_gi rfl rfl rfl rfl rfl (g_ast rfl rfl rfl ?_ (g_rv rfl rfl ?_))))))))))))))))))))))
  · exact absurd zc1 (nI_pos (by omega))
  · exact absurd zc10 hl
  · exact vp_in_nI hp (by decide)
  · exact vp_in_nI hp (by decide)
  · refine ⟨rfl, ?_⟩
    rw [ui_ne (by decide), nI_clamp (by omega)]
end
