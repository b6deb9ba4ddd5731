/-! rows that are made: Row.addSigns, takeSlot, takeType; slots -/
section
variable {l : Launch} {D : va_G} {ad : Nat → Nat} {cA : ClassId} {d r q n : Nat} {x z : Int32} {S S0 : zS}
def addPost (S0 : zS) (b src : List Nat) : Value → zS → Prop := fun v S' => ((b.length + src.length ≤ 15 ∧ v = .int 1 ∧ RowR S' 38 (b ++ src)) ∨ (15 < b.length + src.length ∧ v = .int 0)) ∧ Ag [38, 39] S0 S'
theorem lp_addSigns0 {b src : List Nat} {w1 w2 w3 w4 w5 : Int32} (h : 15 < b.length + src.length) (hA : Ag [38, 39] S0 S) : Go (l, wX, D, ad, cA) 1 m_Row_addSigns (addPost S0 b src) 10 [some (.ref 38), some (.ref 18), some (.int w1), some (.int w2), some (.int 0), some (.int w5)] [] S := by
  refine (g_ld rfl rfl rfl (g_ld rfl rfl rfl (g_if rfl rfl (fun zc13 => (g_ld rfl rfl rfl (g_ri rfl rfl ?_ ?_))) (fun zc13 => (g_ld rfl rfl rfl (g_c rfl rfl (g_if rfl rfl (fun zc20 => (g_ld rfl rfl rfl (g_ri rfl rfl ?_ ?_))) (fun zc20 => (g_ld rfl rfl rfl (g_if rfl rfl (fun zc25 => (g_ld rfl rfl rfl (g_ri rfl rfl ?_ ?_))) (fun zc25 => ?_)))))))))))
  · rfl
  · exact ⟨Or.inr ⟨h, rfl⟩, hA⟩
  · rfl
  · exact ⟨Or.inr ⟨h, rfl⟩, hA⟩
  · rfl
  · exact ⟨Or.inr ⟨h, rfl⟩, hA⟩
  · exact absurd rfl zc25
theorem lp_addSigns {b src : List Nat} {a : Nat} (hs : At (S0.1 21) a src) (hb : a + src.length ≤ 120) : ∀ (k i : Nat) (S : zS), src.length - i = k → i ≤ src.length → b.length + i ≤ 15 → RowR S 38 (b ++ src.take i) → Ag [38, 39] S0 S → Go (l, wX, D, ad, cA) 1 m_Row_addSigns (addPost S0 b src) 10 [some (.ref 38), some (.ref 18), some (.int (nI a)), some (.int (nI (a + src.length))), some (.int 1), some (.int (nI (a + i)))] [] S := by
  intro k
  induction k using Nat.strongRecOn with
  | ind k ih =>
    intro i S hk hi hbi hR hA
    have hlen : (b ++ src.take i).length = b.length + i := by simp; omega
    refine (g_ld rfl rfl rfl (g_ld rfl rfl rfl (g_if rfl rfl (fun zc13 => (g_ld rfl rfl rfl (g_ri rfl rfl ?_ ?_))) (fun zc13 => (g_ld rfl rfl rfl (g_c rfl rfl (g_if rfl rfl (fun zc20 => (g_ld rfl rfl rfl (g_ri rfl rfl ?_ ?_))) (fun zc20 => (g_ld rfl rfl rfl (g_if rfl rfl (fun zc25 => (g_ld rfl rfl rfl (g_ri rfl rfl ?_ ?_))) (fun zc25 => (g_ld rfl rfl rfl (g_ld rfl rfl rfl (g_gr rfl rfl rfl rfl rfl (g_ld rfl rfl rfl (g_ald rfl rfl rfl ?_ (g_cv rfl (s_radd (Or.inl rfl) (n := b.length + i) (by omega) (by rw [← hlen]; exact hR.1)) (by omega) rfl rfl rfl rfl rfl rfl rfl rfl rfl (fun zv36 zS36 zh36 => ?_))))))))))))))))))
    · rfl
    · have : src.length ≤ i := by have := le_n zc13; omega
      have e : i = src.length := by omega
      subst e
      rw [List.take_length] at hR
      exact ⟨Or.inl ⟨hbi, rfl, hR⟩, hA⟩
    · rfl
    · have h1 := nle_n zc13
      have h2 := le_n (a := 120) zc20
      omega
    · rfl
    · exact absurd zc25 (by decide)
    · have h1 := nle_n zc13
      exact vp_in_nI (by omega) (by omega)
    · have h1 : i < src.length := by have := nle_n zc13; omega
      have hv : S.1 21 (nI (a + i)).toNatClampNeg = nI (src.getD i 0) := by
        rw [nI_clamp (by omega), hA.1 21 (by decide)]
        exact hs i h1
      rw [hv] at zh36
      rcases zh36 with ⟨hn, rfl, rfl⟩ | ⟨hn, rfl, rfl⟩
      · refine (g_st rfl rfl rfl rfl rfl (g_inc rfl rfl rfl rfl (g_go rfl ?_)))
        exact lp_addSigns0 (w3 := 0) (w4 := 0) (by omega) hA
      · refine (g_st rfl rfl rfl rfl rfl (g_inc rfl rfl rfl rfl (g_go rfl ?_)))
        have hR2 := RowR.push (s := src.getD i 0) hR (by rw [hlen]; exact hn)
        rw [hlen] at hR2
        have e : b ++ src.take i ++ [src.getD i 0] = b ++ src.take (i + 1) := by
          rw [List.append_assoc, List.take_add_one]
          congr 2
          rw [List.getD_eq_getElem?_getD, List.getElem?_eq_getElem h1]
          rfl
        rw [e] at hR2
        have := ih _ (by omega) (i + 1) _ rfl h1 (by omega) hR2 ((hA.ui (by decide)).ui (by decide))
        rw [show a + (i + 1) = a + i + 1 by omega, nI_succ] at this
        exact this
theorem s_addSigns {b src : List Nat} {a c : Nat} (hs : At (S.1 21) a src) (hb : a + src.length ≤ 120) (hc : c = a + src.length) (hR : RowR S 38 b) : Sp (l, wX, D, ad, cA) 1 m_Row_addSigns [.ref 38, .ref 18, .int (nI a), .int (nI c)] S (addPost S b src) := by
  subst hc
  refine Sp.of dk_Row_addSigns ok_Row_addSigns rfl (g_c rfl rfl (g_st rfl rfl rfl rfl rfl (g_ld rfl rfl rfl (g_c rfl rfl (g_max rfl rfl (g_st rfl rfl rfl rfl rfl ?_))))))
  rw [if_neg (nI_pos (by omega))]
  exact lp_addSigns hs hb _ 0 S rfl (Nat.zero_le _) (by have := hR.2.1; omega) (by simpa using hR) Ag.rf
end
