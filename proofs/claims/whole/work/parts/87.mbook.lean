/-! the reference: book -/
def sI (x : Int32) : Int32 := if x = 120 then 10 else if x = 121 then 11 else x - 48
theorem sI_eq {c s : Nat} (hc : c ≤ 126) (hs : s < 6) (h : sgc c = enc s) : sI (nI c) = nI (enc s) := by
  unfold sgc at h
  unfold sI
  by_cases h1 : c = 120
  · rw [if_pos h1] at h
    rw [if_pos (by rw [h1]; rfl), ← h]; rfl
  · rw [if_neg h1] at h
    have n1 : ¬ nI c = 120 := fun z => h1 (eq_n (b := 120) z)
    rw [if_neg n1]
    by_cases h2 : c = 121
    · rw [if_pos h2] at h
      rw [if_pos (by rw [h2]; rfl), ← h]; rfl
    · rw [if_neg h2] at h
      have n2 : ¬ nI c = 121 := fun z => h2 (eq_n (b := 121) z)
      rw [if_neg n2]
      by_cases h3 : 48 ≤ c
      · rw [if_pos h3] at h
        rw [sub48 h3, h]
      · rw [if_neg h3] at h
        exfalso
        have : ∀ s, s < 6 → (99 : Nat) ≠ enc s := by decide
        exact this s hs h
section
variable {l : Launch} {D : va_G} {ad : Nat → Nat} {cA : ClassId} {x y z w : Int32} {S S' S0 : zS} {m : Mt} {B : Bk} {pg t : List Nat} {n p k r c j s o : Nat} {q q' : Ps} {Q : Nat → Prop} {kd : Nat → Nat}
theorem lp_bs (hl : pg.length ≤ 90) (h1 : At (S0.1 1) 0 pg) (hn : S0.1 0 1 = nI pg.length) {Post : Value → zS → Prop} {w2 : Option Value} (K : ∀ T, Am [10] [] S0 T → (∀ j, j < pg.length → T.1 10 j = sI (nI (pg.getD j 0))) → Go (l, wM, D, ad, cA) 5 m_M_book Post 118 [some (.ref 0), some (.int (nI pg.length)), w2] [] T) : ∀ (k i : Nat) (S : zS), i + k = pg.length → Am [10] [] S0 S → (∀ j, j < i → S.1 10 j = sI (nI (pg.getD j 0))) → Go (l, wM, D, ad, cA) 5 m_M_book Post 89 [some (.ref 0), some (.int (nI i)), w2] [] S
  | 0, i, S, e, hA, hz => by
    have e8 : i = pg.length := by omega
    subst e8
    refine (g_ld rfl rfl rfl (g_ld rfl rfl rfl (g_gi rfl rfl rfl rfl rfl (g_if rfl rfl (fun zc94 => ?_) (fun zc94 => ?_)))))
    · exact K S hA hz
    · rw [hA.2.1 1 (by decide), hn] at zc94
      exact absurd (Int32.le_refl _) zc94
  | k + 1, i, S, e, hA, hz => by
    refine (g_ld rfl rfl rfl (g_ld rfl rfl rfl (g_gi rfl rfl rfl rfl rfl (g_if rfl rfl (fun zc94 => ?_) (fun zc94 => (g_ld rfl rfl rfl (g_gr rfl rfl rfl rfl rfl (g_ld rfl rfl rfl (g_ld rfl rfl rfl (g_gr rfl rfl rfl rfl rfl (g_ld rfl rfl rfl (g_ald rfl rfl rfl ?_ (g_cs rfl (s_signOfM) (by omega) rfl rfl rfl rfl rfl rfl (z_k1 (g_ast rfl rfl rfl ?_ (g_inc rfl rfl rfl rfl (g_go rfl ?_)))))))))))))))))
    · rw [hA.2.1 1 (by decide), hn] at zc94
      have := le_n zc94
      omega
    · exact vp_in_nI (show i < 90 by omega) (by decide)
    · exact vp_in_nI (show i < 90 by omega) (by decide)
    · rw [nI_clamp (by omega)]
      have hr : S.1 1 i = nI (pg.getD i 0) := by
        rw [hA.1 1 (by decide) (by decide)]
        have := h1 i (by omega)
        rw [Nat.zero_add] at this
        exact this
      have := lp_bs hl h1 hn K k (i + 1) (z_ui S 10 i (sI (S.1 1 i))) (by omega) (hA.ui (by decide) (by decide)) (fun j hj => by
        rw [ui_at]
        by_cases g : j = i
        · rw [g, pk_us, hr]
        · rw [pk_un g]; exact hz j (by omega))
      rw [nI_succ] at this
      exact this
/-- the place before a member's type has its kind -/
def kAt (S : zS) (pg : List Nat) (B : Bk) (kd : Nat → Nat) : Prop := ∀ k i, k < bN B → i < bM B k → ∃ st, S.1 9 (4 * k + i + 1) = nI (st + 1) ∧ st < pg.length ∧ kIx (pg.getD st 0) = nI (kd (3 * k + i))
theorem lp_bkI (hB4 : bN B ≤ 4) (hM3 : ∀ k, bM B k ≤ 3) (hl : pg.length ≤ 90) (h126 : ∀ c ∈ pg, c ≤ 126) (h1 : At (S0.1 1) 0 pg) (hk9 : kAt S0 pg B kd) (h8 : ∀ k, k < bN B → S0.1 8 k = nI (bM B k)) (hc : c < bN B) {Post : Value → zS → Prop} (K : ∀ T, Am [11] [] S0 T → (∀ k i, k < bN B → i < bM B k → k < c + 1 → T.1 11 (4 * k + i) = nI (kd (3 * k + i))) → Go (l, wM, D, ad, cA) 5 m_M_book Post 178 [some (.ref 0), some (.int (nI c)), some (.int (nI (bM B c)))] [] T) : ∀ (k i : Nat) (S : zS), i + k = bM B c → Am [11] [] S0 S → (∀ k' i', k' < bN B → i' < bM B k' → (k' < c ∨ (k' = c ∧ i' < i)) → S.1 11 (4 * k' + i') = nI (kd (3 * k' + i'))) → Go (l, wM, D, ad, cA) 5 m_M_book Post 130 [some (.ref 0), some (.int (nI c)), some (.int (nI i))] [] S
  | 0, i, S, e, hA, hz => by
    have h3 := hM3 c
    have e8 : i = bM B c := by omega
    subst e8
    have r8 : S.1 8 (nI c).toNatClampNeg = nI (bM B c) := by rw [nI_clamp (by omega), hA.1 8 (by decide) (by decide)]; exact h8 c hc
    refine (g_ld rfl rfl rfl (g_ld rfl rfl rfl (g_gr rfl rfl rfl rfl rfl (g_ld rfl rfl rfl (g_ald rfl rfl rfl ?_ (g_if rfl rfl (fun zc137 => ?_) (fun zc137 => ?_)))))))
    · exact vp_in_nI (show c < 4 by omega) (by decide)
    · exact K S hA (fun k' i' hk' hi' hlt => hz k' i' hk' hi' (by
        rcases Nat.lt_or_ge k' c with g | g
        · exact Or.inl g
        · have : k' = c := by omega
          subst this
          exact Or.inr ⟨rfl, hi'⟩))
    · rw [r8] at zc137
      exact absurd (Int32.le_refl _) zc137
  | k + 1, i, S, e, hA, hz => by
    have h3 := hM3 c
    have r8 : S.1 8 (nI c).toNatClampNeg = nI (bM B c) := by rw [nI_clamp (by omega), hA.1 8 (by decide) (by decide)]; exact h8 c hc
    obtain ⟨st, g1, g2, g3⟩ := hk9 c i hc (by omega)
    have r9 : S.1 9 (4 * nI c + nI i + 1).toNatClampNeg - 1 = nI st := by rw [e4, ← nI_succ, nI_clamp (by omega), hA.1 9 (by decide) (by decide), g1, nI_succ, Int32.add_sub_cancel]
    have r1 : S.1 1 st = nI (pg.getD st 0) := by
      rw [hA.1 1 (by decide) (by decide)]
      have := h1 st g2
      rw [Nat.zero_add] at this
      exact this
    have hcc : pg.getD st 0 ≤ 126 := by
      rw [List.getD_eq_getElem?_getD, List.getElem?_eq_getElem g2]
      exact h126 _ (List.getElem_mem g2)
    refine (g_ld rfl rfl rfl (g_ld rfl rfl rfl (g_gr rfl rfl rfl rfl rfl (g_ld rfl rfl rfl (g_ald rfl rfl rfl ?_ (g_if rfl rfl (fun zc137 => ?_) (fun zc137 => (g_ld rfl rfl rfl (g_gr rfl rfl rfl rfl rfl (g_c rfl rfl (g_ld rfl rfl rfl (g_bin rfl rfl (g_ld rfl rfl rfl (g_bin rfl rfl (g_ld rfl rfl rfl (g_gr rfl rfl rfl rfl rfl (g_ld rfl rfl rfl (g_gr rfl rfl rfl rfl rfl (g_c rfl rfl (g_ld rfl rfl rfl (g_bin rfl rfl (g_ld rfl rfl rfl (g_bin rfl rfl (g_c rfl rfl (g_bin rfl rfl (g_ald rfl rfl rfl ?_ (g_c rfl rfl (g_bin rfl rfl (g_ald rfl rfl rfl ?_ ?_)))))))))))))))))))))))))))))
    · exact vp_in_nI (show c < 4 by omega) (by decide)
    · rw [r8] at zc137
      have := le_n zc137
      omega
    · rw [e4, ← nI_succ]; exact vp_in_nI (show 4 * c + i + 1 < 16 by omega) (by decide)
    · rw [r9]; exact vp_in_nI (show st < 90 by omega) (by decide)
    · rw [r9, nI_clamp (show st < 2 ^ 31 by omega), r1]
      refine (g_cs rfl (s_kindBy (c := pg.getD st 0) (by omega)) (by omega) rfl rfl rfl rfl rfl rfl (z_k1 ?_))
      refine (g_ast rfl rfl rfl ?_ (g_inc rfl rfl rfl rfl (g_go rfl ?_)))
      · rw [e4]; exact vp_in_nI (show 4 * c + i < 16 by omega) (by decide)
      · rw [e4, nI_clamp (by omega), g3]
        have := lp_bkI hB4 hM3 hl h126 h1 hk9 h8 hc K k (i + 1) (z_ui S 11 (4 * c + i) (nI (kd (3 * c + i)))) (by omega) (hA.ui (by decide) (by decide)) (fun k' i' hk' hi' hlt => by
          have := hM3 k'
          rw [ui_at]
          by_cases g : 4 * k' + i' = 4 * c + i
          · rw [g, pk_us, show 3 * k' + i' = 3 * c + i by omega]
          · rw [pk_un g]
            exact hz k' i' hk' hi' (by omega))
        rw [nI_succ i] at this
        exact this
theorem lp_bk (hB4 : bN B ≤ 4) (hM3 : ∀ k, bM B k ≤ 3) (hl : pg.length ≤ 90) (h126 : ∀ c ∈ pg, c ≤ 126) (h1 : At (S0.1 1) 0 pg) (hk9 : kAt S0 pg B kd) (h8 : ∀ k, k < bN B → S0.1 8 k = nI (bM B k)) (h10 : S0.1 0 10 = nI (bN B)) {Post : Value → zS → Prop} (K : ∀ T w1 w2, Am [11] [] S0 T → KdM T 11 B kd → Go (l, wM, D, ad, cA) 5 m_M_book Post 184 [some (.ref 0), w1, w2] [] T) : ∀ (k c : Nat) (S : zS) (w2 : Option Value), c + k = bN B → Am [11] [] S0 S → (∀ k' i', k' < bN B → i' < bM B k' → k' < c → S.1 11 (4 * k' + i') = nI (kd (3 * k' + i'))) → Go (l, wM, D, ad, cA) 5 m_M_book Post 120 [some (.ref 0), some (.int (nI c)), w2] [] S
  | 0, c, S, w2, e, hA, hz => by
    refine (g_ld rfl rfl rfl (g_ld rfl rfl rfl (g_gi rfl rfl rfl rfl rfl (g_if rfl rfl (fun zc125 => ?_) (fun zc125 => ?_)))))
    · exact K S _ _ hA (fun k' i' hk' hi' => hz k' i' hk' hi' (by omega))
    · rw [hA.2.1 10 (by decide), h10] at zc125
      have := nle_n zc125
      omega
  | k + 1, c, S, w2, e, hA, hz => by
    refine (g_ld rfl rfl rfl (g_ld rfl rfl rfl (g_gi rfl rfl rfl rfl rfl (g_if rfl rfl (fun zc125 => ?_) (fun zc125 => (g_c rfl rfl (g_st rfl rfl rfl rfl rfl ?_)))))))
    · rw [hA.2.1 10 (by decide), h10] at zc125
      have := le_n zc125
      omega
    · refine lp_bkI hB4 hM3 hl h126 h1 hk9 h8 (c := c) (by omega) (fun T hAT hT => ?_) (bM B c) 0 S (by omega) hA (fun k' i' hk' hi' hlt => hz k' i' hk' hi' (by omega))
      refine (g_inc rfl rfl rfl rfl (g_go rfl ?_))
      have := lp_bk hB4 hM3 hl h126 h1 hk9 h8 h10 K k (c + 1) T (some (.int (nI (bM B c)))) (by omega) hAT hT
      rw [nI_succ c] at this
      exact this
theorem lp_bz {Post : Value → zS → Prop} {w2 : Option Value} (K : ∀ T, Am [12] [] S0 T → (∀ s, s < 8 → T.1 12 s = 0) → Go (l, wM, D, ad, cA) 5 m_M_book Post 205 [some (.ref 0), some (.int 8), w2] [] T) : ∀ (k i : Nat) (S : zS), i + k = 8 → Am [12] [] S0 S → (∀ s, s < i → S.1 12 s = 0) → Go (l, wM, D, ad, cA) 5 m_M_book Post 186 [some (.ref 0), some (.int (nI i)), w2] [] S
  | 0, i, S, e, hA, hz => by
    have e8 : i = 8 := by omega
    subst e8
    refine (g_ld rfl rfl rfl (g_c rfl rfl (g_if rfl rfl (fun zc189 => ?_) (fun zc189 => ?_))))
    · exact K S hA hz
    · exact absurd (by decide) zc189
  | k + 1, i, S, e, hA, hz => by
    refine (g_ld rfl rfl rfl (g_c rfl rfl (g_if rfl rfl (fun zc189 => ?_) (fun zc189 => (g_ld rfl rfl rfl (g_gr rfl rfl rfl rfl rfl (g_ld rfl rfl rfl (g_c rfl rfl (g_ast rfl rfl rfl ?_ (g_inc rfl rfl rfl rfl (g_go rfl ?_)))))))))))
    · have := le_n (a := 8) zc189
      omega
    · exact vp_in_nI (show i < 8 by omega) (by decide)
    · rw [nI_clamp (by omega)]
      have := lp_bz K k (i + 1) (z_ui S 12 i 0) (by omega) (hA.ui (by decide) (by decide)) (fun j hj => by
        rw [ui_at]
        by_cases g : j = i
        · rw [g, pk_us]
        · rw [pk_un g]; exact hz j (by omega))
      rw [nI_succ] at this
      exact this
end
