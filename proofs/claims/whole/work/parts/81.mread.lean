/-! the reference's reader -/
def sgc (c : Nat) : Nat := if c = 120 then 10 else if c = 121 then 11 else if 48 ≤ c then c - 48 else 99
def TgM (S : zS) (pg : List Nat) (j p : Nat) (t : List Nat) (o : Prop) (Q : Nat → Prop) : Prop := ∃ st, S.1 5 p = nI st ∧ st + t.length ≤ j ∧ (o → st + t.length = j) ∧ (∀ i, i < t.length → sgc (pg.getD (st + i) 0) = enc (t.getD i 0)) ∧ Q st
def kQ (pg : List Nat) (k : Nat) : Nat → Prop := fun st => 1 ≤ st ∧ kix (pg.getD (st - 1) 0) = some k
def RmX (S : zS) (pg : List Nat) (q : Ps) (j : Nat) : Prop := QOk q ∧ S.1 0 2 = nI (qH q) ∧ S.1 0 3 = nI (bN (qB q)) ∧ S.1 0 4 = nI (qN q) ∧ (qH q = 3 ∨ qH q = 5 → S.1 0 5 = nI (qO q)) ∧ (∀ k, k < bN (qB q) → S.1 2 k = nI (bP (qB q) k)) ∧
  (∀ k, (k < qN q ∨ (k = qN q ∧ 2 ≤ qH q)) → S.1 3 k = abI (qB q) k ∧ S.1 4 k = nI (bM (qB q) k)) ∧
  (∀ k, k < 4 → bT (qB q) (12 + k) ≠ [] → TgM S pg j (4 * k) (bT (qB q) (12 + k)) (qH q = 3 ∧ k = qN q) (fun _ => True)) ∧
  (∀ k i, k < 4 → i < bM (qB q) k → TgM S pg j (4 * k + i + 1) (bT (qB q) (3 * k + i)) (qH q = 5 ∧ k = qN q ∧ i + 1 = bM (qB q) k) (kQ pg (qK q (3 * k + i)))) ∧
  (∀ k, k < 4 → (qN q < k ∨ (k = qN q ∧ qH q < 3)) → bT (qB q) (12 + k) = []) ∧ (qH q = 3 → bT (qB q) (12 + qN q) ≠ []) ∧ qO q ≤ 1 + 2 * j
def gdPost (S0 : zS) (pg : List Nat) (q : Ps) (c j : Nat) : Value → zS → Prop := fun v S' => Am [2, 3, 4, 5] [2, 3, 4, 5] S0 S' ∧ ((stp q c = none ∧ v = .int 0) ∨ ∃ q', stp q c = some q' ∧ v = .int 1 ∧ RmX S' pg q' (j + 1))
theorem sgc_eq {B : Bk} {b c s : Nat} (h4 : bN B ≤ 4) (h : sg B b c = some s) : sgc c = enc s := by
  unfold sg at h
  unfold sgc
  split at h
  · next e =>
    rw [if_pos e]
    split at h
    · cases h; rfl
    · cases h
  · next e =>
    rw [if_neg e]
    split at h
    · next e2 =>
      rw [if_pos e2]
      split at h
      · cases h; rfl
      · cases h
    · next e2 =>
      rw [if_neg e2]
      split at h
      · next e3 =>
        cases h
        rw [if_pos e3.1, enc_lt (by omega)]
      · cases h
section
variable {l : Launch} {D : va_G} {ad : Nat → Nat} {cA : ClassId} {x y z w : Int32} {S S' S0 : zS} {m : Mt} {B : Bk} {pg t : List Nat} {n p k r c j s : Nat} {q q' : Ps} {o o' : Prop} {Q : Nat → Prop}
theorem TgM.mono (h : TgM S pg j p t o Q) (h5 : S'.1 5 p = S.1 5 p) : TgM S' pg (j + 1) p t False Q := by
  obtain ⟨st, a1, a2, a3, a4, a5⟩ := h
  exact ⟨st, by rw [h5]; exact a1, by omega, fun z => False.elim z, a4, a5⟩
theorem TgM.weak (h : TgM S pg j p t o Q) (ho : o' → o) : TgM S pg j p t o' Q := by
  obtain ⟨st, a1, a2, a3, a4, a5⟩ := h
  exact ⟨st, a1, a2, fun z => a3 (ho z), a4, a5⟩
theorem TgM.push (h : TgM S pg j p t o Q) (ho : o) (hs : sgc (pg.getD j 0) = enc s) (h5 : S'.1 5 p = S.1 5 p) : TgM S' pg (j + 1) p (t ++ [s]) o' Q := by
  obtain ⟨st, a1, a2, a3, a4, a5⟩ := h
  have e := a3 ho
  refine ⟨st, by rw [h5]; exact a1, by simp; omega, fun _ => by simp; omega, fun i hi => ?_, a5⟩
  simp only [List.length_append, List.length_cons, List.length_nil] at hi
  by_cases g : i < t.length
  · rw [a4 i g, List.getD_eq_getElem?_getD, List.getD_eq_getElem?_getD, List.getElem?_append_left g]
  · have ei : i = t.length := by omega
    rw [ei, e, hs, List.getD_eq_getElem?_getD, List.getElem?_append_right (Nat.le_refl _), Nat.sub_self]
    rfl
theorem gd_no {v : Value} (hA : Am [2, 3, 4, 5] [2, 3, 4, 5] S S') (h : stp q c = none) (hv : v = .int 0) : gdPost S pg q c j v S' := ⟨hA, Or.inl ⟨h, hv⟩⟩
theorem gd_yes {v : Value} (hA : Am [2, 3, 4, 5] [2, 3, 4, 5] S S') (h : stp q c = some q') (hv : v = .int 1) (hR : RmX S' pg q' (j + 1)) : gdPost S pg q c j v S' := ⟨hA, Or.inr ⟨q', h, hv, hR⟩⟩
theorem s_isClassSign (h3 : S.1 0 3 = nI n) (hn : n ≤ 4) (hc : c ≤ 126) : Sp (l, wM, D, ad, cA) 1 m_M_isClassSign [.ref 0, .int (nI c)] S (fun v S' => v = .int (b2 (48 ≤ c ∧ c < 48 + n)) ∧ S' = S) := by
  refine Sp.of dk_M_isClassSign ok_M_isClassSign rfl (g_ld rfl rfl rfl (g_un rfl rfl (g_c rfl rfl (g_c rfl rfl (g_ld rfl rfl rfl (g_gi rfl rfl rfl rfl rfl (g_bin rfl rfl (g_c rfl rfl (g_bin rfl rfl (g_un rfl rfl (g_cs rfl (s_inE (lo := 48) (hi := 48 + S.1 0 3 - 1) rfl rfl) (by omega) rfl rfl rfl rfl rfl rfl (z_k1 (g_ri rfl rfl ?_ ?_)))))))))))))
  · exact b2_nar
  · refine ⟨?_, rfl⟩
    have e : 48 + S.1 0 3 - 1 = nI (47 + n) := by
      rw [h3, show (48 : Int32) = nI 48 from rfl, nI_add, show 48 + n = (47 + n) + 1 by omega, nI_succ, Int32.add_sub_cancel]
    rw [e]
    congr 1
    refine b2_iff ⟨fun q => ?_, fun q => ?_⟩
    · have h1 := le_n (a := 48) q.1
      have h2 := le_n q.2
      omega
    · exact ⟨nI_le (a := 48) q.1 (by omega), nI_le (by omega) (by omega)⟩
theorem s_isParameterSign (h2 : S.1 2 k = nI p) (hk : S.1 0 4 = nI k) (hk4 : k < 4) (hp : p ≤ 2) (hc : c ≤ 126) : Sp (l, wM, D, ad, cA) 0 m_M_isParameterSign [.ref 0, .int (nI c)] S (fun v S' => v = .int (b2 ((c = 120 ∧ 0 < p) ∨ (c = 121 ∧ 1 < p))) ∧ S' = S) := by
  have hin : vp_in (S.1 0 4) 4 := by rw [hk]; exact vp_in_nI hk4 (by decide)
  have e2 : S.1 2 (S.1 0 4).toNatClampNeg = nI p := by rw [hk, nI_clamp (by omega)]; exact h2
  refine Sp.of dk_M_isParameterSign ok_M_isParameterSign rfl (g_ld rfl rfl rfl (g_c rfl rfl (g_if rfl rfl (fun zc3 => (g_ld rfl rfl rfl (g_c rfl rfl (g_if rfl rfl (fun zc21 => (g_c rfl rfl (g_ri rfl rfl rfl ?_))) (fun zc21 => (g_ld rfl rfl rfl (g_gr rfl rfl rfl rfl rfl (g_ld rfl rfl rfl (g_gi rfl rfl rfl rfl rfl (g_ald rfl rfl rfl ?_ (g_c rfl rfl (g_if rfl rfl (fun zc34 => (g_c rfl rfl (g_ri rfl rfl rfl ?_))) (fun zc34 => (g_c rfl rfl (g_go rfl (g_ri rfl rfl rfl ?_)))))))))))))))) (fun zc3 => (g_ld rfl rfl rfl (g_gr rfl rfl rfl rfl rfl (g_ld rfl rfl rfl (g_gi rfl rfl rfl rfl rfl (g_ald rfl rfl rfl ?_ (g_if rfl rfl (fun zc15 => (g_c rfl rfl (g_go rfl (g_ri rfl rfl rfl ?_)))) (fun zc15 => (g_ld rfl rfl rfl (g_c rfl rfl (g_if rfl rfl (fun zc21 => (g_c rfl rfl (g_ri rfl rfl rfl ?_))) (fun zc21 => (g_ld rfl rfl rfl (g_gr rfl rfl rfl rfl rfl (g_ld rfl rfl rfl (g_gi rfl rfl rfl rfl rfl (g_ald rfl rfl rfl ?_ (g_c rfl rfl (g_if rfl rfl (fun zc34 => (g_c rfl rfl (g_ri rfl rfl rfl ?_))) (fun zc34 => (g_c rfl rfl (g_go rfl (g_ri rfl rfl rfl ?_))))))))))))))))))))))))))
  · have c1 : ¬ c = 120 := fun e => zc3 (by rw [e]; rfl)
    have c2 : ¬ c = 121 := fun e => zc21 (by rw [e]; rfl)
    exact v_int (b2_f (fun g => by rcases g with g | g; exact c1 g.1; exact c2 g.1)).symm rfl
  · exact hin
  · have c1 : ¬ c = 120 := fun e => zc3 (by rw [e]; rfl)
    rw [e2] at zc34
    have := le_n (b := 1) zc34
    exact v_int (b2_f (fun g => by rcases g with g | g; exact c1 g.1; omega)).symm rfl
  · have c2 : c = 121 := eq_n (b := 121) (Decidable.not_not.mp zc21)
    rw [e2] at zc34
    have := nle_n (b := 1) zc34
    exact v_int (b2_t (Or.inr ⟨c2, this⟩)).symm rfl
  · exact hin
  · have c1 : c = 120 := eq_n (b := 120) (Decidable.not_not.mp zc3)
    rw [e2] at zc15
    have := lt_n (a := 0) zc15
    exact v_int (b2_t (Or.inl ⟨c1, this⟩)).symm rfl
  · have c1 : c = 120 := eq_n (b := 120) (Decidable.not_not.mp zc3)
    have c2 : ¬ c = 121 := by omega
    rw [e2] at zc15
    have : ¬ 0 < p := fun g => zc15 (nI_lt (a := 0) g (by omega))
    exact v_int (b2_f (fun g => by rcases g with g | g; exact this g.2; exact c2 g.1)).symm rfl
  · exact hin
  · have c1 : c = 120 := eq_n (b := 120) (Decidable.not_not.mp zc3)
    exact absurd (Decidable.not_not.mp zc21) (by rw [c1]; decide)
  · have c1 : c = 120 := eq_n (b := 120) (Decidable.not_not.mp zc3)
    exact absurd (Decidable.not_not.mp zc21) (by rw [c1]; decide)
theorem sg_iff (h4 : bN B ≤ 4) : (((c = 120 ∧ 0 < bP B k) ∨ (c = 121 ∧ 1 < bP B k)) → ∃ s, sg B k c = some s ∧ 4 ≤ s ∧ ¬ (48 ≤ c ∧ c < 48 + bN B)) ∧ ((48 ≤ c ∧ c < 48 + bN B) → sg B k c = some (c - 48)) ∧ (¬ ((c = 120 ∧ 0 < bP B k) ∨ (c = 121 ∧ 1 < bP B k)) → ¬ (48 ≤ c ∧ c < 48 + bN B) → sg B k c = none) := by
  unfold sg
  refine ⟨fun h => ?_, fun h => ?_, fun h1 h2 => ?_⟩
  · rcases h with ⟨e, h⟩ | ⟨e, h⟩
    · rw [if_pos e, if_pos h]; exact ⟨4, rfl, by omega, by omega⟩
    · rw [if_neg (by omega), if_pos e, if_pos h]; exact ⟨5, rfl, by omega, by omega⟩
  · rw [if_neg (by omega), if_neg (by omega), if_pos h]
  · by_cases e : c = 120
    · rw [if_pos e, if_neg (fun g => h1 (Or.inl ⟨e, g⟩))]
    · rw [if_neg e]
      by_cases e2 : c = 121
      · rw [if_pos e2, if_neg (fun g => h1 (Or.inr ⟨e2, g⟩))]
      · rw [if_neg e2, if_neg h2]
end
