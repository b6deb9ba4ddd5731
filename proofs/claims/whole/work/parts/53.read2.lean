/-! each step keeps what is read in form -/
theorem upN_le {f : Nat → Nat} {k v n j : Nat} (h : f j ≤ n) (hv : v ≤ n) : upN f k v j ≤ n := by unfold upN; split <;> omega
theorem qok_step {q q' : Ps} {c : Nat} (hq : QOk q) (h : stp q c = some q') : QOk q' := by
  have hq0 := hq
  obtain ⟨a1, a2, a3, a4, a5, a6, a7, a8, a9, a10, a11, a12⟩ := hq
  unfold stp at h
  split at h
  · next e =>
    unfold st0 at h
    split at h
    · split at h
      · cases h
        refine ⟨by show 1 ≤ 5; decide, a2, a3, a4, a5, fun _ => ?_, fun z => absurd z (by show ¬ (1 = 3 ∨ 1 = 5); decide), fun z => absurd z (by show ¬ 1 = 5; decide), a9, fun z => absurd z (by show ¬ 1 = 0; decide), a11, fun _ => a12 (by omega)⟩
        show qN q < bN (qB q)
        rw [a10 e]; assumption
      · cases h
    · split at h
      · next g =>
        cases h
        refine ⟨by show 0 ≤ 5; decide, show bN (qB q) + 1 ≤ 4 by omega, fun k => ?_, fun k hk => ?_, a5, fun z => absurd rfl z, fun z => absurd z (by show ¬ (0 = 3 ∨ 0 = 5); decide), fun z => absurd z (by show ¬ 0 = 5; decide), a9, fun _ => a10 e, a11, fun _ => a12 (by omega)⟩
        · exact upN_le (a3 k) (by omega)
        · show upN (bP (qB q)) (bN (qB q)) (c - 48) k = 0
          have hk : bN (qB q) + 1 ≤ k := hk
          unfold upN
          rw [if_neg (by omega)]
          exact a4 k (by omega)
      · cases h
  · next e =>
    unfold st1 at h
    split at h
    · cases h
      exact ⟨by show 2 ≤ 5; decide, a2, a3, a4, a5, fun _ => a6 (by omega), fun z => absurd z (by show ¬ (2 = 3 ∨ 2 = 5); decide), fun z => absurd z (by show ¬ 2 = 5; decide), a9, fun z => absurd z (by show ¬ 2 = 0; decide), a11, fun _ => a12 (by omega)⟩
    · split at h
      · cases h
        exact ⟨by show 4 ≤ 5; decide, a2, a3, a4, a5, fun _ => a6 (by omega), fun z => absurd z (by show ¬ (4 = 3 ∨ 4 = 5); decide), fun z => absurd z (by show ¬ 4 = 5; decide), a9, fun z => absurd z (by show ¬ 4 = 0; decide), a11, fun z => absurd z (by show ¬ 4 < 4; decide)⟩
      · cases h
  · next e =>
    unfold st2 at h
    split at h
    · cases h
      refine qok_S (q := (3, upT (qB q) (12 + qN q) [], qK q, qN q, 1)) ?_ (Or.inl rfl) (by show ¬ 3 = 0; decide) (fun _ => a12 (by omega)) (fun z => absurd z (by decide))
      exact ⟨by show 3 ≤ 5; decide, a2, a3, a4, a5, fun _ => a6 (by omega), fun _ => (by show 0 < 1; decide), fun z => absurd z (by show ¬ 3 = 5; decide), a9, fun z => absurd z (by show ¬ 3 = 0; decide), a11, fun _ => a12 (by omega)⟩
    · cases h
  · next e =>
    unfold st3 at h
    split at h
    · split at h
      · cases h
        exact qok_S hq0 (Or.inl rfl) (by omega) (fun _ => a12 (by omega)) (fun z => absurd z (by decide))
      · cases h
    · cases h
  · next e =>
    unfold st4 at h
    split at h
    · split at h
      · next g =>
        cases h
        exact ⟨by show 1 ≤ 5; decide, a2, a3, a4, a5, fun _ => g, fun z => absurd z (by show ¬ (1 = 3 ∨ 1 = 5); decide), fun z => absurd z (by show ¬ 1 = 5; decide), a9, fun z => absurd z (by show ¬ 1 = 0; decide), fun k hk => a11 k (by have hk : qN q + 1 < k := hk; omega), fun _ => a11 _ (Nat.lt_succ_self _)⟩
      · cases h
    · split at h
      · next k hk =>
        split at h
        · next g =>
          cases h
          refine ⟨by show 5 ≤ 5; decide, a2, a3, a4, fun j => upN_le (a5 j) (by omega), fun _ => a6 (by omega), fun _ => (by show 0 < 1; decide), fun _ => ?_, fun i => ?_, fun z => absurd z (by show ¬ 5 = 0; decide), fun j hj => ?_, fun z => absurd z (by show ¬ 5 < 4; decide)⟩
          · show 0 < upN (bM (qB q)) (qN q) (bM (qB q) (qN q) + 1) (qN q)
            unfold upN
            rw [if_pos rfl]
            omega
          · show upN (qK q) _ k i < 5
            have := kix_lt hk
            unfold upN
            split
            · exact this
            · exact a9 i
          · show upN (bM (qB q)) (qN q) (bM (qB q) (qN q) + 1) j = 0
            have hj : qN q < j := hj
            unfold upN
            rw [if_neg (by omega)]
            exact a11 j hj
        · cases h
      · cases h
  · have e5 : qH q = 5 := by
      generalize qH q = zz at *
      match zz, a1 with
      | 0, _ => exact absurd rfl (by assumption)
      | 1, _ => exact absurd rfl (by assumption)
      | 2, _ => exact absurd rfl (by assumption)
      | 3, _ => exact absurd rfl (by assumption)
      | 4, _ => exact absurd rfl (by assumption)
      | 5, _ => rfl
    unfold st5 at h
    split at h
    · cases h
      exact qok_S hq0 (Or.inr rfl) (by omega) (fun z => absurd z (by decide)) (fun _ => a8 e5)
    · cases h
/-! the draft -/
def DfX (S : zS) (B : Bk) (K : Nat → Nat) (k cur : Nat) : Prop :=
  S.1 10 7 = nI (bN B) ∧ (∀ i, i < 4 → S.1 12 i = nI (bP B i)) ∧ (∀ i, i < 4 → S.1 13 i = nI (bM B i)) ∧ (∀ i, i < 12 → S.1 11 i = nI (K i)) ∧ S.1 10 6 = nI k ∧ k ≤ 90 ∧
  ∀ p, p < 16 → ∃ st, S.1 15 p = nI st ∧ S.1 16 p = nI (st + (bT B p).length) ∧ st + (bT B p).length ≤ k ∧ At (S.1 14) st (bT B p) ∧ (p = cur → st + (bT B p).length = k)
section
variable {S S' : zS} {B : Bk} {K : Nat → Nat} {k cur p s n : Nat}
theorem DfX.ag (h : DfX S B K k cur) (hk : ∀ i, 10 ≤ i → i ≤ 16 → S'.1 i = S.1 i) : DfX S' B K k cur := by
  unfold DfX at h ⊢
  rw [hk 10 (by omega) (by omega), hk 11 (by omega) (by omega), hk 12 (by omega) (by omega), hk 13 (by omega) (by omega), hk 14 (by omega) (by omega), hk 15 (by omega) (by omega), hk 16 (by omega) (by omega)]
  exact h
theorem DfX.un (h : DfX S B K k cur) : DfX S B K k 99 := by
  obtain ⟨h1, h2, h3, h4, h5, h6, h7⟩ := h
  refine ⟨h1, h2, h3, h4, h5, h6, fun p hp => ?_⟩
  obtain ⟨st, a1, a2, a3, a4, -⟩ := h7 p hp
  exact ⟨st, a1, a2, a3, a4, fun e => by omega⟩
theorem DfX.sign (h : DfX S B K k p) (hp : p < 16) (hk : k < 90) : DfX (z_ui (z_ui (z_ui S 14 k (nI s)) 10 6 (nI (k + 1))) 16 p (nI (k + 1))) (upT B p (bT B p ++ [s])) K (k + 1) p := by
  obtain ⟨h1, h2, h3, h4, h5, h6, h7⟩ := h
  refine ⟨?_, fun i hi => ?_, fun i hi => ?_, fun i hi => ?_, ?_, by omega, fun r hr => ?_⟩
  · rw [ui_ne (by decide), ui_at, pk_un (by decide), ui_ne (by decide)]; exact h1
  · rw [ui_ne (by decide), ui_ne (by decide), ui_ne (by decide)]; exact h2 i hi
  · rw [ui_ne (by decide), ui_ne (by decide), ui_ne (by decide)]; exact h3 i hi
  · rw [ui_ne (by decide), ui_ne (by decide), ui_ne (by decide)]; exact h4 i hi
  · rw [ui_ne (by decide), ui_at, pk_us]
  · obtain ⟨st, a1, a2, a3, a4, a5⟩ := h7 r hr
    refine ⟨st, ?_, ?_, ?_, ?_, ?_⟩
    · rw [ui_ne (by decide), ui_ne (by decide), ui_ne (by decide)]; exact a1
    · rw [ui_at]
      show _ = nI (st + (if r = p then bT B p ++ [s] else bT B r).length)
      by_cases e : r = p
      · rw [if_pos e, e, pk_us]
        rw [e] at a5
        have := a5 rfl
        simp only [List.length_append, List.length_cons, List.length_nil]
        rw [← Nat.add_assoc, this]
      · rw [if_neg e, pk_un e, ui_ne (by decide), ui_ne (by decide)]; exact a2
    · show st + (if r = p then bT B p ++ [s] else bT B r).length ≤ k + 1
      by_cases e : r = p
      · rw [e] at a5
        have := a5 rfl
        rw [if_pos e]
        simp only [List.length_append, List.length_cons, List.length_nil]
        omega
      · rw [if_neg e]
        omega
    · rw [ui_ne (by decide), ui_ne (by decide), ui_at]
      show At _ st (if r = p then bT B p ++ [s] else bT B r)
      by_cases e : r = p
      · rw [e] at a5 a4
        have := a5 rfl
        rw [if_pos e]
        have hA := At.push (s := s) a4
        rw [this] at hA
        exact hA
      · rw [if_neg e]
        exact a4.congr (fun i hi => pk_un (by omega))
    · intro e
      show st + (if r = p then bT B p ++ [s] else bT B r).length = k + 1
      rw [e] at a5
      have := a5 rfl
      rw [if_pos e]
      simp only [List.length_append, List.length_cons, List.length_nil]
      omega
theorem DfX.begin {x : Int32} (h : DfX S B K k cur) (hp : p < 16) (hx : x = nI k) : DfX (z_ui (z_ui S 15 p x) 16 p x) (upT B p []) K k p := by
  subst hx
  obtain ⟨h1, h2, h3, h4, h5, h6, h7⟩ := h
  refine ⟨?_, fun i hi => ?_, fun i hi => ?_, fun i hi => ?_, ?_, h6, fun r hr => ?_⟩
  · rw [ui_ne (by decide), ui_ne (by decide)]; exact h1
  · rw [ui_ne (by decide), ui_ne (by decide)]; exact h2 i hi
  · rw [ui_ne (by decide), ui_ne (by decide)]; exact h3 i hi
  · rw [ui_ne (by decide), ui_ne (by decide)]; exact h4 i hi
  · rw [ui_ne (by decide), ui_ne (by decide)]; exact h5
  · by_cases e : r = p
    · refine ⟨k, ?_, ?_, ?_, ?_, ?_⟩
      · rw [ui_ne (by decide), ui_at, e, pk_us]
      · show _ = nI (k + (if r = p then [] else bT B r).length)
        rw [ui_at, if_pos e, e, pk_us]
        rfl
      · show k + (if r = p then [] else bT B r).length ≤ k
        rw [if_pos e]
        exact Nat.le_refl _
      · show At _ k (if r = p then [] else bT B r)
        rw [if_pos e]
        exact At.nil
      · intro _
        show k + (if r = p then [] else bT B r).length = k
        rw [if_pos e]
        rfl
    · obtain ⟨st, a1, a2, a3, a4, a5⟩ := h7 r hr
      refine ⟨st, ?_, ?_, ?_, ?_, fun z => absurd z e⟩
      · rw [ui_ne (by decide), ui_at, pk_un e]; exact a1
      · show _ = nI (st + (if r = p then [] else bT B r).length)
        rw [ui_at, if_neg e, pk_un e, ui_ne (by decide)]; exact a2
      · show st + (if r = p then [] else bT B r).length ≤ k
        rw [if_neg e]; exact a3
      · show At _ st (if r = p then [] else bT B r)
        rw [if_neg e, ui_ne (by decide), ui_ne (by decide)]; exact a4
theorem df_par (h : DfX S B K k cur) (h4 : bN B ≤ 4) (h0 : ∀ k, bN B ≤ k → bP B k = 0) {s : Nat} (hs : s < 2 ^ 31) : f_par S 10 (nI s) = nI (bP B s) := by
  unfold f_par
  by_cases hc : s < 4
  · rw [if_pos (in4 hc), nI_clamp hs]; exact h.2.1 s hc
  · rw [if_neg (fun q => nI_nlt (a := s) (b := 4) (by omega) hs q.2), h0 s (by omega)]; rfl
theorem df_mem (h : DfX S B K k cur) {s : Nat} (hs : s < 4) : f_mem S 10 (nI s) = nI (bM B s) := by
  unfold f_mem
  rw [if_pos (in4 hs), nI_clamp (by omega)]; exact h.2.2.1 s hs
end
