/-! book -/
def v_book (m : Mt) : Int32 := match rdB (mP m) with
  | some q => nI (bN (qB q))
  | none => -103
def m_book (m : Mt) : Mt := match rdB (mP m) with
  | some q => ([], qB q, (qK q, fun _ => [], []), none, mR m + 1, mH m)
  | none => m
section
variable {l : Launch} {D : va_G} {ad : Nat → Nat} {cA : ClassId} {x y z w : Int32} {S S' S0 : zS} {B : Bk} {K : Nat → Nat} {n p k b c s o j r : Nat} {q q' : Ps} {m : Mt}
theorem DfX.copy (h : DfX S B K k r) (h1 : S'.1 3 7 = S.1 10 7) (h2 : ∀ i, i < 4 → S'.1 5 i = S.1 12 i) (h3 : ∀ i, i < 4 → S'.1 6 i = S.1 13 i) (h4 : ∀ i, i < 90 → S'.1 7 i = S.1 14 i) (h5 : ∀ i, i < 16 → S'.1 8 i = S.1 15 i) (h6 : ∀ i, i < 16 → S'.1 9 i = S.1 16 i) : BkX S' 3 B := by
  obtain ⟨g1, g2, g3, g4, g5, g6, g7⟩ := h
  refine ⟨by rw [h1]; exact g1, fun i hi => by rw [show 3 + 2 = 5 from rfl, h2 i hi]; exact g2 i hi, fun i hi => by rw [show 3 + 3 = 6 from rfl, h3 i hi]; exact g3 i hi, fun p hp => ?_⟩
  obtain ⟨st, a1, a2, a3, a4, -⟩ := g7 p hp
  refine ⟨st, by rw [show 3 + 5 = 8 from rfl, h5 p hp]; exact a1, by rw [show 3 + 6 = 9 from rfl, h6 p hp]; exact a2, by omega, a4.congr (fun i hi => h4 _ (by omega))⟩
theorem x_book (h : InvX S m) (hm : MOk m) : Sp (l, wX, D, ad, cA) 7 m_SB_book [.ref 0] S (fun v S' => v = .int (v_book m) ∧ InvX S' (m_book m)) := by
  have h90 := hm.1
  unfold v_book m_book
  refine Sp.of dk_SB_book ok_SB_book rfl (g_ld rfl rfl rfl (g_gr rfl rfl rfl rfl rfl (g_ld rfl rfl rfl (g_gr rfl rfl rfl rfl rfl (g_cv rfl (s_firstFault h hm) (by omega) rfl rfl rfl rfl rfl rfl rfl rfl rfl (fun zv8 zS8 zh8 => ?_))))))
  obtain ⟨rfl, hA, hRd⟩ := zh8
  rw [Nat.zero_add]
  have hsc : InvX zS8 m := h.scr (fun k hk hk2 => hA.1 k (by simp; omega)) (fun k hk => by rw [hA.1 41 (by decide)]; exact h.2.2.2.2.2.2.1 k hk)
  cases hf : fq q0 (mP m) with
  | none =>
    have hlt := fl_none _ _ hf
    have hr : rdB (mP m) = none := by unfold rdB; rw [hf]
    rw [hr]
    refine (g_ld rfl rfl rfl (g_gr rfl rfl rfl rfl rfl (g_gi rfl rfl rfl rfl rfl (g_if rfl rfl (fun zc18 => (g_c rfl rfl (g_ri rfl rfl rfl ?_))) (fun zc18 => ?_)))))
    · exact ⟨rfl, hsc⟩
    · rw [hsc.1] at zc18
      exact absurd (nI_lt hlt (by omega)) zc18
  | some q =>
    have hfl := fl_some _ _ _ hf
    have hR := hRd q hf
    obtain ⟨k, hk, hd⟩ := hR.df
    refine (g_ld rfl rfl rfl (g_gr rfl rfl rfl rfl rfl (g_gi rfl rfl rfl rfl rfl (g_if rfl rfl (fun zc18 => (g_c rfl rfl (g_ri rfl rfl rfl ?_))) (fun zc18 => (g_ld rfl rfl rfl (g_gr rfl rfl rfl rfl rfl (g_cv rfl (s_isWhole) (by omega) rfl rfl rfl rfl rfl rfl rfl rfl rfl (z_k1 (g_if rfl rfl (fun zc28 => ?_) (fun zc28 => (g_c rfl rfl (g_ri rfl rfl rfl ?_)))))))))))))
    · rw [hsc.1, hfl] at zc18
      exact absurd zc18 (i_nl (Int32.le_refl _))
    · have g := b2_n.mp zc28
      rw [hR.2.1, hR.2.2.1, hd.1] at g
      have hH := hR.1.1
      have h4 : qH q = 4 := eq_n (b := 4) g.1
      have hN4 := hR.1.2.1
      have hNl : qN q < bN (qB q) := hR.1.2.2.2.2.2.1 (by omega)
      have hN : qN q + 1 = bN (qB q) := by
        have g2 := g.2
        rw [show (1 : Int32) = nI 1 from rfl, pk_sub (by omega)] at g2
        have := eq_n g2
        omega
      have hr : rdB (mP m) = some q := by unfold rdB; rw [hf]; exact if_pos ⟨h4, hN⟩
      rw [hr]
      obtain ⟨-, hQ, hW, -, -⟩ := rdB_ok hr
      refine (g_ld rfl rfl rfl (g_gr rfl rfl rfl rfl rfl (g_ld rfl rfl rfl (g_gr rfl rfl rfl rfl rfl (g_cv rfl (s_bcopy) (by omega) rfl rfl rfl rfl rfl rfl rfl rfl rfl (fun zv42 zS42 zh42 => ?_))))))
      obtain ⟨rfl, hA2, c1, c2, c3, c4, c5, c6, c7⟩ := zh42
      have hB1 : BkX zS42 3 (qB q) := hd.copy c7 c2 c3 c4 c5 c6
      refine (g_ld rfl rfl rfl (g_gr rfl rfl rfl rfl rfl (g_ld rfl rfl rfl (g_gr rfl rfl rfl rfl rfl (g_gr rfl rfl rfl rfl rfl (g_cv rfl (s_begin) (by omega) rfl rfl rfl rfl rfl rfl rfl rfl rfl (fun zv56 zS56 zh56 => ?_)))))))
      obtain ⟨rfl, hA3, k1, k2, k3⟩ := zh56
      have hB2 : BkX zS56 3 (qB q) := hB1.ag (fun k _ _ => hA3.1 k (by simp; omega))
      have hK2 : KdX zS56 (qK q) := ⟨hQ.2.2.2.2.2.2.2.2.1, fun p hp => by rw [k1 p hp, c1 p hp]; exact hd.2.2.2.1 p hp⟩
      refine (g_ld rfl rfl rfl (g_gr rfl rfl rfl rfl rfl (g_ld rfl rfl rfl (g_gr rfl rfl rfl rfl rfl (g_gr rfl rfl rfl rfl rfl (g_c rfl rfl (g_cv rfl (s_settle0 (Or.inl ⟨rfl, rfl⟩) hB2 hW hK2) (by omega) rfl rfl rfl rfl rfl rfl rfl rfl rfl (fun zv71 zS71 zh71 => ?_))))))))
      obtain ⟨rfl, hW3, hr3, hA4⟩ := zh71
      refine (g_ld rfl rfl rfl (g_c rfl rfl (g_pi rfl rfl rfl rfl rfl rfl rfl (g_ld rfl rfl rfl (g_dup rfl rfl (g_gi rfl rfl rfl rfl rfl (g_c rfl rfl (g_bin rfl rfl (g_pi rfl rfl rfl rfl rfl rfl rfl (g_ld rfl rfl rfl (g_gr rfl rfl rfl rfl rfl (g_cv rfl (s_pclear) (by omega) rfl rfl rfl rfl rfl rfl rfl rfl rfl (fun zv93 zS93 zh93 => ?_)))))))))))))
      obtain ⟨rfl, rfl⟩ := zh93
      refine (g_pop rfl rfl (g_ld rfl rfl rfl (g_gr rfl rfl rfl rfl rfl (g_gi rfl rfl rfl rfl rfl (g_ri rfl rfl rfl ?_)))))
      have kA : ∀ i, i ≠ 0 → i ≠ 1 → (z_ui (z_ui (z_ui zS71 0 11 0) 0 12 ((z_ui zS71 0 11 0).1 0 12 + 1)) 1 1 0).1 i = zS71.1 i := fun i h0 h1 => by rw [ui_ne h1, ui_ne h0, ui_ne h0]
      have kB : ∀ i, ¬ (3 ≤ i ∧ i ≤ 20) → ¬ (30 ≤ i ∧ i ≤ 33) → zS71.1 i = S.1 i := fun i g1 g2 => by
        rw [hA4.1 i (by simp; omega), hA3.1 i (by simp; omega), hA2.1 i (by simp; omega), hA.1 i (by simp; omega)]
      have hB5 : BkX zS71 3 (qB q) := hB2.ag (fun k _ _ => hA4.1 k (by simp; omega))
      refine ⟨?_, ?_⟩
      · rw [kA 3 (by decide) (by decide), hB5.1]
      · refine ⟨?_, At.nil, hB5.ag (fun k _ _ => kA k (by omega) (by omega)), ⟨fun p hp => ?_, fun s hs => ⟨?_, At.nil⟩, ?_, fun i hi => absurd hi (Nat.not_lt_zero _)⟩, hW3.ag (kA 31 (by decide) (by decide)), ?_, fun k hk => ?_, ?_, fun k hk => absurd (show none = some k from hk) (by simp), ?_, ?_⟩
        · rw [ui_at, pk_us]; rfl
        · rw [kA _ (by decide) (by decide), hA4.1 _ (by decide)]; exact hK2.2 p hp
        · rw [kA _ (by decide) (by decide), hA4.1 _ (by decide)]; exact k2 s hs
        · rw [kA _ (by decide) (by decide), hA4.1 _ (by decide)]; exact k3
        · rw [kA _ (by decide) (by decide)]; exact hr3
        · rw [kA _ (by decide) (by decide), kB 41 (by decide) (by decide)]; exact h.2.2.2.2.2.2.1 k hk
        · rw [ui_ne (by decide), ui_at, pk_un (by decide), ui_at, pk_us]; rfl
        · rw [ui_ne (by decide), ui_at, pk_us, ui_at, pk_un (by decide), kB 0 (by decide) (by decide), h.2.2.2.2.2.2.2.2.2.1]
          exact (nI_succ _).symm
        · rw [ui_ne (by decide), ui_at, pk_un (by decide), ui_at, pk_un (by decide), kB 0 (by decide) (by decide)]
          exact h.2.2.2.2.2.2.2.2.2.2
    · have g := b2_0.mp (Decidable.not_not.mp zc28)
      rw [hR.2.1, hR.2.2.1, hd.1] at g
      have hr : rdB (mP m) = none := by
        unfold rdB; rw [hf]
        refine if_neg (fun z => g ⟨by rw [z.1]; rfl, ?_⟩)
        rw [← z.2, nI_succ, Int32.add_sub_cancel]
      rw [hr]
      exact ⟨rfl, hsc⟩
end
