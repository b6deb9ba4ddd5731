/-! the program's book: what is read of it -/
theorem z_k1 {X : zX} {d : Nat} {y : zM} {Post : Value → zS → Prop} {n : Nat} {L : List (Option Value)} {rest : List Value} {S : zS} {v0 : Value} (k : Go X d y Post n L (z_pu v0 rest) S) : ∀ v S', (v = v0 ∧ S' = S) → Go X d y Post n L (z_pu v rest) S' := by
  rintro v S' ⟨rfl, rfl⟩
  exact k
def f_par (S : zS) (r : Nat) (x : Int32) : Int32 := if 0 ≤ x ∧ x < 4 then S.1 (r + 2) x.toNatClampNeg else 0
def f_mem (S : zS) (r : Nat) (x : Int32) : Int32 := if 0 ≤ x ∧ x < 4 then S.1 (r + 3) x.toNatClampNeg else 0
def f_sta (S : zS) (r : Nat) (x : Int32) : Int32 := if 0 ≤ x ∧ x < 16 then S.1 (r + 5) x.toNatClampNeg else 0
def f_end (S : zS) (r : Nat) (x : Int32) : Int32 := if 0 ≤ x ∧ x < 16 then S.1 (r + 6) x.toNatClampNeg else 0
def f_sgn (S : zS) (r : Nat) (x : Int32) : Int32 := if 0 ≤ x ∧ x < 90 then S.1 (r + 4) x.toNatClampNeg else 0
section
variable {l : Launch} {D : va_G} {ad : Nat → Nat} {cA : ClassId} {d r : Nat} {x z : Int32} {S : zS}
--@ Book_hasClass s_hasClass p (by decide)
theorem s_hasClass (hr : r = 3 ∨ r = 10) : Sp (l, wX, D, ad, cA) 0 m_Book_hasClass [.ref r, .int x] S (fun v S' => v = .int (if 0 ≤ x ∧ x < S.1 r 7 ∧ x < 4 then 1 else 0) ∧ S' = S) := by
  rcases hr with rfl | rfl
  all_goals
    refine Sp.of dk_Book_hasClass ok_Book_hasClass rfl (g_ld rfl rfl rfl (g_if rfl rfl (fun c1 => (g_c rfl rfl (g_ri rfl rfl rfl ?_))) (fun c1 => (g_ld rfl rfl rfl (g_ld rfl rfl rfl (g_gi rfl rfl rfl rfl rfl (g_if rfl rfl (fun c9 => (g_c rfl rfl (g_ri rfl rfl rfl ?_))) (fun c9 => (g_ld rfl rfl rfl (g_c rfl rfl (g_if rfl rfl (fun c14 => (g_c rfl rfl (g_ri rfl rfl rfl ?_))) (fun c14 => (g_c rfl rfl (g_go rfl (g_ri rfl rfl rfl ?_)))))))))))))))
    · exact ⟨by rw [if_neg (fun h => absurd h.1 (Int32.not_le.mpr c1))], rfl⟩
    · exact ⟨by rw [if_neg (fun h => absurd h.2.1 (Int32.not_lt.mpr c9))], rfl⟩
    · exact ⟨by rw [if_neg (fun h => absurd h.2.2 (Int32.not_lt.mpr c14))], rfl⟩
    · exact ⟨by rw [if_pos ⟨Int32.not_lt.mp c1, Int32.not_le.mp c9, Int32.not_le.mp c14⟩], rfl⟩
--@ Book_parametersOf s_parametersOf p (by decide)
theorem s_parametersOf (hr : r = 3 ∨ r = 10) : Sp (l, wX, D, ad, cA) 0 m_Book_parametersOf [.ref r, .int x] S (fun v S' => v = .int (f_par S r x) ∧ S' = S) := by
  rcases hr with rfl | rfl
  all_goals
    refine Sp.of dk_Book_parametersOf ok_Book_parametersOf rfl (g_ld rfl rfl rfl (g_if rfl rfl (fun c1 => (g_c rfl rfl (g_ri rfl rfl rfl ?_))) (fun c1 => (g_ld rfl rfl rfl (g_ld rfl rfl rfl (g_gr rfl rfl rfl rfl rfl (g_len rfl rfl rfl (g_if rfl rfl (fun c10 => (g_c rfl rfl (g_ri rfl rfl rfl ?_))) (fun c10 => (g_ld rfl rfl rfl (g_gr rfl rfl rfl rfl rfl (g_ld rfl rfl rfl (g_ald rfl rfl rfl ?_ (g_go rfl (g_ri rfl rfl rfl ?_)))))))))))))))
    all_goals sorry
end
