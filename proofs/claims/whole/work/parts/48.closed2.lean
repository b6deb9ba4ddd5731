/-! a page that closes is a type -/
def pgT (t : List Nat) : List Nat := t.map (fun c => c - 48)
theorem clT_ok {B : Bk} : ∀ (t : List Nat) (o : Nat), clT B t o = true → finb (bP B) o (pgT t) = true ∧ skipL (bP B) o (pgT t) = (pgT t).length ∧ ∀ s ∈ pgT t, s < bN B
  | [], o, h => by
    rw [clT] at h
    have e : o = 0 := of_decide_eq_true h
    subst e
    simp [pgT, finb, skipL]
  | c :: t, 0, h => by rw [clT] at h; exact absurd h (by decide)
  | c :: t, o + 1, h => by
    rw [clT] at h
    by_cases q : 48 ≤ c ∧ c < 48 + bN B
    · rw [if_pos q] at h
      obtain ⟨g1, g2, g3⟩ := clT_ok t (o + bP B (c - 48)) h
      have e : pgT (c :: t) = (c - 48) :: pgT t := rfl
      rw [e, finb, skipL, g1, g2, List.length_cons]
      refine ⟨rfl, by omega, fun s hs => ?_⟩
      rcases List.mem_cons.mp hs with e | e
      · rw [e]; omega
      · exact g3 s e
    · rw [if_neg q] at h
      exact absurd h (by decide)
theorem clT_ct {B : Bk} {t : List Nat} (h : clT B t 1 = true) : CT B (pgT t) := by
  obtain ⟨g1, g2, g3⟩ := clT_ok t 1 h
  exact ⟨g3, g1, g2⟩
