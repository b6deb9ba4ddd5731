/-! the reference's reader: a sign; counts, bodies, above -/
section
variable {l : Launch} {D : va_G} {ad : Nat → Nat} {cA : ClassId} {x y z w : Int32} {S S' S0 : zS} {m : Mt} {B : Bk} {pg t : List Nat} {n p k r c j s o : Nat} {q q' : Ps} {Q : Nat → Prop}
theorem RmX.ofS (h : RmX S pg q j) (hh : qH q = 3 ∨ qH q = 5) (hq : QOk (stS q (qH q) p o s)) (hp : p = cur q) (hO : qO q = o + 1) (hs : sgc (pg.getD j 0) = enc s) (a2 : S'.1 2 = S.1 2) (a3 : S'.1 3 = S.1 3) (a4 : S'.1 4 = S.1 4) (a5 : S'.1 5 = S.1 5) (f3 : S'.1 0 3 = S.1 0 3) (f4 : S'.1 0 4 = S.1 0 4) (f2 : S'.1 0 2 = nI (if o + bP (qB q) s = 0 then 4 else qH q)) (f5 : S'.1 0 5 = nI (o + bP (qB q) s)) : RmX S' pg (stS q (qH q) p o s) (j + 1) := by
  obtain ⟨h1, h2, h3, h4, h5, h6, h7, h8, h9, h10, h11, h12⟩ := h
  have b4 := h1.2.1
  have hN : qN q < bN (qB q) := h1.2.2.2.2.2.1 (by omega)
  have hP2 := h1.2.2.1 s
  have eH : qH (stS q (qH q) p o s) = if o + bP (qB q) s = 0 then 4 else qH q := rfl
  have eT : ∀ i, bT (qB (stS q (qH q) p o s)) i = if i = p then bT (qB q) p ++ [s] else bT (qB q) i := fun _ => rfl
  have hM0 : qH q = 5 → 0 < bM (qB q) (qN q) := h1.2.2.2.2.2.2.2.1
  have hM3 := h1.2.2.2.2.1
  have cp3 : qH q = 3 → p = 12 + qN q := fun e => by rw [hp]; unfold cur; rw [if_pos e]
  have cp5 : qH q = 5 → p = 3 * qN q + (bM (qB q) (qN q) - 1) := fun e => by rw [hp]; unfold cur; rw [if_neg (by omega), if_pos e]; rfl
  have hge : 3 ≤ qH (stS q (qH q) p o s) := by rw [eH]; split <;> omega
  have hq3 : qH (stS q (qH q) p o s) = 3 → qH q = 3 := fun e => by rw [eH] at e; split at e <;> omega
  have hq5 : qH (stS q (qH q) p o s) = 5 → qH q = 5 := fun e => by rw [eH] at e; split at e <;> omega
  refine ⟨hq, by rw [f2, eH], by rw [f3]; exact h3, by rw [f4]; exact h4, fun _ => f5, by rw [a2]; exact h6, fun k hk => ?_, fun k hk hne => ?_, fun k i hk hi => ?_, fun k hk hlt => ?_, fun e => ?_, ?_⟩
  · have hk' : k < qN q ∨ (k = qN q ∧ 2 ≤ qH q) := by
      rcases hk with g | g
      · exact Or.inl g
      · exact Or.inr ⟨g.1, by omega⟩
    rw [a3, a4]
    have g := h7 k hk'
    refine ⟨?_, g.2⟩
    rw [g.1]
    unfold abI
    rw [eT]
    by_cases e : 12 + k = p
    · rw [if_pos e]
      rcases hh with e3 | e5
      · have ek : k = qN q := by have := cp3 e3; omega
        have hne := h11 e3
        rw [← ek] at hne
        rw [← e]
        cases hb : bT (qB q) (12 + k) with
        | nil => exact absurd hb hne
        | cons a as => rfl
      · have := cp5 e5
        have := hM3 (qN q)
        omega
    · rw [if_neg e]
  · rw [eT] at hne ⊢
    by_cases e : 12 + k = p
    · rcases hh with e3 | e5
      · have ek : k = qN q := by have := cp3 e3; omega
        rw [if_pos e, ← e]
        have hne0 := h11 e3
        rw [← ek] at hne0
        exact (h8 k hk hne0).push ⟨e3, ek⟩ hs (by rw [a5])
      · have := cp5 e5
        have := hM3 (qN q)
        omega
    · rw [if_neg e] at hne ⊢
      refine ((h8 k hk hne).mono (by rw [a5])).weak (fun z => ?_)
      have := cp3 (hq3 z.1)
      have := z.2
      have : qN (stS q (qH q) p o s) = qN q := rfl
      omega
  · have hi : i < bM (qB q) k := hi
    have hi3 := hM3 k
    rw [eT]
    by_cases e : 3 * k + i = p
    · rcases hh with e3 | e5
      · have := cp3 e3; omega
      · have c5 := cp5 e5
        have m0 := hM0 e5
        have m3 := hM3 (qN q)
        have ek : k = qN q := by omega
        subst ek
        rw [if_pos e, ← e]
        exact (h9 _ i hk hi).push ⟨e5, rfl, by omega⟩ hs (by rw [a5])
    · rw [if_neg e]
      refine ((h9 k i hk hi).mono (by rw [a5])).weak (fun z => ?_)
      have e5 := hq5 z.1
      have c5 := cp5 e5
      have ek : k = qN q := z.2.1
      have ei : i + 1 = bM (qB q) k := z.2.2
      subst ek
      exact e (by omega)
  · have hlt' : qN q < k := by
      rcases hlt with g | g
      · exact g
      · have := g.2; omega
    rw [eT]
    by_cases e : 12 + k = p
    · rcases hh with e3 | e5
      · have := cp3 e3; omega
      · have := cp5 e5
        have := hM3 (qN q)
        omega
    · rw [if_neg e]
      exact h10 k hk (Or.inl hlt')
  · rw [eT]
    show (if 12 + qN q = p then _ else _) ≠ []
    rw [if_pos (cp3 (hq3 e)).symm]
    simp
  · show o + bP (qB q) s ≤ _
    omega
/-- nothing of the types is changed -/
theorem RmX.same {h b : Nat} (hR : RmX S pg q j) (hq : QOk (h, qB q, qK q, b, qO q)) (a2 : S'.1 2 = S.1 2) (a5 : S'.1 5 = S.1 5) (f3 : S'.1 0 3 = S.1 0 3) (f2 : S'.1 0 2 = nI h) (f4 : S'.1 0 4 = nI b) (h35 : h ≠ 3 ∧ h ≠ 5) (hb : ∀ k, (k < b ∨ (k = b ∧ 2 ≤ h)) → S'.1 3 k = abI (qB q) k ∧ S'.1 4 k = nI (bM (qB q) k)) (he : ∀ k, k < 4 → (b < k ∨ (k = b ∧ h < 3)) → bT (qB q) (12 + k) = []) : RmX S' pg (h, qB q, qK q, b, qO q) (j + 1) := by
  obtain ⟨h1, h2, h3, h4, h5, h6, h7, h8, h9, h10, h11, h12⟩ := hR
  refine ⟨hq, f2, by rw [f3]; exact h3, f4, fun z => absurd z (by show ¬ (h = 3 ∨ h = 5); omega), by rw [a2]; exact h6, hb, fun k hk hne => ((h8 k hk hne).mono (by rw [a5])).weak (fun z => h35.1 z.1), fun k i hk hi => ((h9 k i hk hi).mono (by rw [a5])).weak (fun z => h35.2 z.1), he, fun z => absurd z h35.1, by show qO q ≤ _; omega⟩
theorem s_isCount (h : RmX S pg q j) (h0 : qH q = 0) (hc : c ≤ 126) (hw : QW q) : Sp (l, wM, D, ad, cA) 1 m_M_isCount [.ref 0, .int (nI c)] S (gdPost S pg q c j) := by
  have hQ := h.1
  have h4 := hQ.2.1
  have e : stp q c = st0 q c := stp_0 h0
  have hT := (hw.2.2.2.2.2 h0).1
  have hn0 : qN q = 0 := hQ.2.2.2.2.2.2.2.2.2.1 h0
  unfold st0 at e
  have go20 : c ≠ 59 ∨ ¬ 0 < bN (qB q) → Go (l, wM, D, ad, cA) 1 m_M_isCount (gdPost S pg q c j) 20 [some (.ref 0), some (.int (nI c))] [] S := by
    intro hcase
    refine (g_ld rfl rfl rfl (g_un rfl rfl (g_c rfl rfl (g_c rfl rfl (g_cs rfl (s_inE (lo := 48) (hi := 50) rfl rfl) (by omega) rfl rfl rfl rfl rfl rfl (z_k1 (g_if rfl rfl (fun zc31 => (g_c rfl rfl (g_ri rfl rfl rfl ?_))) (fun zc31 => (g_ld rfl rfl rfl (g_gi rfl rfl rfl rfl rfl (g_c rfl rfl (g_if rfl rfl (fun zc39 => (g_ld rfl rfl rfl (g_gr rfl rfl rfl rfl rfl (g_ld rfl rfl rfl (g_gi rfl rfl rfl rfl rfl (g_ld rfl rfl rfl (g_c rfl rfl (g_bin rfl rfl (g_ast rfl rfl rfl ?_ (g_ld rfl rfl rfl (g_dup rfl rfl (g_gi rfl rfl rfl rfl rfl (g_c rfl rfl (g_bin rfl rfl (g_pi rfl rfl rfl rfl rfl rfl rfl (g_c rfl rfl (g_ri rfl rfl rfl ?_))))))))))))))))) (fun zc39 => (g_c rfl rfl (g_ri rfl rfl rfl ?_)))))))))))))))
    · have g := b2_0.mp zc31
      have g2 : ¬ (48 ≤ c ∧ c ≤ 50 ∧ bN (qB q) < 4) := fun z => g ⟨nI_le (a := 48) z.1 (by omega), nI_le (b := 50) z.2.1 (by omega)⟩
      have e2 : stp q c = none := by
        rw [e]
        by_cases h59 : c = 59
        · rw [if_pos h59]
          rcases hcase with z | z
          · exact absurd h59 z
          · rw [if_neg z]
        · rw [if_neg h59, if_neg g2]
      exact gd_no Am.rf e2 rfl
    · have g := b2_n.mp zc31
      have g1 := le_n (a := 48) g.1
      have g2 := le_n (b := 50) g.2
      rw [h.2.2.1] at zc39
      have hne : ¬ bN (qB q) = 4 := fun z => zc39 (by rw [z]; rfl)
      rw [h.2.2.1]
      exact vp_in_nI (show bN (qB q) < 4 by omega) (by decide)
    · have g := b2_n.mp zc31
      have g1 := le_n (a := 48) g.1
      have g2 := le_n (b := 50) g.2
      rw [h.2.2.1] at zc39
      have hne : ¬ bN (qB q) = 4 := fun z => zc39 (by rw [z]; rfl)
      rw [if_neg (by omega), if_pos ⟨g1, g2, by omega⟩] at e
      rw [h.2.2.1, nI_clamp (by omega), ui_ne (by decide), h.2.2.1, ← nI_succ, sub48 g1]
      refine gd_yes ((Am.rf.ui (by decide) (by decide)).fd (by decide)) e rfl ?_
      obtain ⟨h1, h2, h3, h4', h5, h6, h7, h8, h9, h10, h11, h12⟩ := h
      refine ⟨qok_step hQ e, ?_, ?_, ?_, fun z => absurd z (by show ¬ (0 = 3 ∨ 0 = 5); decide), fun k hk => ?_, fun k hk => ?_, fun k hk hne => absurd (hT _) hne, fun k i hk hi => ?_, fun k hk _ => hT _, fun z => absurd z (by show ¬ 0 = 3; decide), ?_⟩
      · rw [ui_at, pk_un (by decide), ui_ne (by decide), h2, h0]; rfl
      · rw [ui_at, pk_us]; rfl
      · rw [ui_at, pk_un (by decide), ui_ne (by decide)]; exact h4'
      · rw [ui_ne (by decide), ui_at]
        have hk : k < bN (qB q) + 1 := hk
        show _ = nI (upN (bP (qB q)) (bN (qB q)) (c - 48) k)
        unfold upN
        by_cases z : k = bN (qB q)
        · rw [if_pos z, z, pk_us]
        · rw [if_neg z, pk_un z]; exact h6 k (by omega)
      · have hk : k < qN q ∨ (k = qN q ∧ 2 ≤ 0) := hk
        omega
      · have hi : i < bM (qB q) k := hi
        rw [(hw.2.2.2.2.2 h0).2 k] at hi
        exact absurd hi (Nat.not_lt_zero _)
      · show qO q ≤ _
        omega
    · rw [h.2.2.1] at zc39
      have h4e : bN (qB q) = 4 := eq_n (b := 4) (Decidable.not_not.mp zc39)
      have e2 : stp q c = none := by
        rw [e]
        by_cases h59 : c = 59
        · rw [if_pos h59]
          rcases hcase with z | z
          · exact absurd h59 z
          · rw [if_neg z]
        · rw [if_neg h59, if_neg (fun z => by omega)]
      exact gd_no Am.rf e2 rfl
  refine Sp.of dk_M_isCount ok_M_isCount rfl (g_ld rfl rfl rfl (g_c rfl rfl (g_if rfl rfl (fun zc3 => ?_) (fun zc3 => (g_ld rfl rfl rfl (g_gi rfl rfl rfl rfl rfl (g_if rfl rfl (fun zc10 => ?_) (fun zc10 => (g_ld rfl rfl rfl (g_c rfl rfl (g_pi rfl rfl rfl rfl rfl rfl rfl (g_c rfl rfl (g_ri rfl rfl rfl ?_)))))))))))))
  · exact go20 (Or.inl (fun z => zc3 (by rw [z]; rfl)))
  · rw [h.2.2.1] at zc10
    exact go20 (Or.inr (fun z => by
      have := le_n (b := 0) zc10
      omega))
  · have h59 : c = 59 := eq_n (b := 59) (Decidable.not_not.mp zc3)
    rw [h.2.2.1] at zc10
    have hn : 0 < bN (qB q) := nle_n (b := 0) zc10
    rw [if_pos h59, if_pos hn] at e
    refine gd_yes (Am.rf.fd (by decide)) e rfl (h.same (qok_step hQ e) (ui_ne (by decide)) (ui_ne (by decide)) (by rw [ui_at, pk_un (by decide)]) (by rw [ui_at, pk_us]; rfl) (by rw [ui_at, pk_un (by decide)]; exact h.2.2.2.1) ⟨by decide, by decide⟩ (fun k hk => by omega) (fun k hk _ => hT _))
end
