/-! firstFault, fault, book -/
section
variable {l : Launch} {D : va_G} {ad : Nat → Nat} {cA : ClassId} {x y z w : Int32} {S S' S0 : zS} {B : Bk} {K : Nat → Nat} {n p k b c s o j r : Nat} {q q' : Ps} {m : Mt}
theorem lp_ff (h : InvX S0 m) (hm : MOk m) : ∀ (k i : Nat) (q : Ps) (S : zS), i + k = (mP m).length → RdX S q i → Ag [10, 11, 12, 13, 14, 15, 16, 17] S0 S → Go (l, wX, D, ad, cA) 6 m_Rdr_firstFault (ffPost S0 q ((mP m).drop i) i (mP m).length) 24 [some (.ref 17), some (.ref 1), some (.int (nI i))] [] S
  | 0, i, q, S, e, hR, hA => by
    have h90 := hm.1
    have hd : (mP m).drop i = [] := List.drop_eq_nil_of_le (by omega)
    have ei : i = (mP m).length := by omega
    rw [hd]
    refine (g_ld rfl rfl rfl (g_ld rfl rfl rfl (g_gi rfl rfl rfl rfl rfl (g_if rfl rfl (fun zc29 => (g_ld rfl rfl rfl (g_gi rfl rfl rfl rfl rfl (g_ri rfl rfl rfl ?_)))) (fun zc29 => ?_)))))
    · refine ⟨?_, hA, fun q' hq => ?_⟩
      · rw [hA.1 1 (by decide), h.1, ei]; rfl
      · rw [fq] at hq
        cases hq
        rw [← ei]
        exact hR
    · rw [hA.1 1 (by decide), h.1] at zc29
      have := nle_n zc29
      omega
  | k + 1, i, q, S, e, hR, hA => by
    have h90 := hm.1
    have hi : i < (mP m).length := by omega
    have hlet : f_let S (nI i) = nI ((mP m).getD i 0) := by
      rw [← let_at h hm hi]
      unfold f_let
      rw [hA.1 _ (by decide)]
    have hc126 : (mP m).getD i 0 ≤ 126 := by
      rw [List.getD_eq_getElem?_getD, List.getElem?_eq_getElem hi]
      exact (hm.2.1 _ (List.getElem_mem hi)).2
    rw [drop_at hi]
    refine (g_ld rfl rfl rfl (g_ld rfl rfl rfl (g_gi rfl rfl rfl rfl rfl (g_if rfl rfl (fun zc29 => (g_ld rfl rfl rfl (g_gi rfl rfl rfl rfl rfl (g_ri rfl rfl rfl ?_)))) (fun zc29 => ?_)))))
    · rw [hA.1 1 (by decide), h.1] at zc29
      have := le_n zc29
      omega
    · refine (g_ld rfl rfl rfl (g_ld rfl rfl rfl (g_ld rfl rfl rfl (g_cv rfl s_letterAt (by omega) rfl rfl rfl rfl rfl rfl rfl rfl rfl (z_k1 ?_)))))
      rw [hlet]
      refine (g_cv rfl (s_takes hR hc126 (by omega)) (by omega) rfl rfl rfl rfl rfl rfl rfl rfl rfl (fun zv38 zS38 zh38 => ?_))
      obtain ⟨hA2, ⟨hn, rfl⟩ | ⟨q2, hs, rfl, hR2⟩⟩ := zh38
      · refine (g_if rfl rfl (fun zc41 => (g_inc rfl rfl rfl rfl (g_go rfl ?_))) (fun zc41 => (g_ld rfl rfl rfl (g_ri rfl rfl rfl ?_))))
        · exact absurd rfl zc41
        · refine ⟨?_, hA.tr hA2, fun q' hq => ?_⟩
          · rw [fl, hn]; rfl
          · rw [fq, hn] at hq
            cases hq
      · refine (g_if rfl rfl (fun zc41 => (g_inc rfl rfl rfl rfl (g_go rfl ?_))) (fun zc41 => (g_ld rfl rfl rfl (g_ri rfl rfl rfl ?_))))
        · have := lp_ff h hm k (i + 1) q2 zS38 (by omega) hR2 (hA.tr hA2)
          have ef : ffPost S0 q ((mP m).getD i 0 :: (mP m).drop (i + 1)) i (mP m).length = ffPost S0 q2 ((mP m).drop (i + 1)) (i + 1) (mP m).length := by
            unfold ffPost
            rw [fl, fq, hs]
            show (fun v S' => v = Value.int (nI (i + (fl q2 ((mP m).drop (i + 1)) + 1))) ∧ _) = _
            rw [show i + (fl q2 ((mP m).drop (i + 1)) + 1) = i + 1 + fl q2 ((mP m).drop (i + 1)) by omega]
          rw [ef]
          rw [nI_succ] at this
          exact this
        · exact absurd (by decide) zc41
theorem s_firstFault (h : InvX S m) (hm : MOk m) : Sp (l, wX, D, ad, cA) 6 m_Rdr_firstFault [.ref 17, .ref 1] S (ffPost S q0 (mP m) 0 (mP m).length) := by
  refine Sp.of dk_Rdr_firstFault ok_Rdr_firstFault rfl (g_ld rfl rfl rfl (g_gr rfl rfl rfl rfl rfl (g_cv rfl (s_bclear) (by omega) rfl rfl rfl rfl rfl rfl rfl rfl rfl (fun zv4 zS4 zh4 => ?_))))
  obtain ⟨rfl, hA, hB, h11, h6, h15⟩ := zh4
  refine (g_ld rfl rfl rfl (g_c rfl rfl (g_pi rfl rfl rfl rfl rfl rfl rfl (g_ld rfl rfl rfl (g_c rfl rfl (g_pi rfl rfl rfl rfl rfl rfl rfl (g_ld rfl rfl rfl (g_c rfl rfl (g_pi rfl rfl rfl rfl rfl rfl rfl (g_c rfl rfl (g_st rfl rfl rfl rfl rfl ?_)))))))))))
  have hd : DfX zS4 bk0 (fun _ => 0) 0 99 := ⟨hB.1, hB.2.1, hB.2.2.1, h11, h6, by omega, fun p hp => ⟨0, (h15 p hp).1, (h15 p hp).2, Nat.le_refl _, At.nil, fun _ => rfl⟩⟩
  have := lp_ff (l := l) (D := D) (ad := ad) (cA := cA) (S0 := S) h hm (mP m).length 0 q0 (z_ui (z_ui (z_ui zS4 17 1 0) 17 2 0) 17 4 0) (by omega) (RdX.mk' qok0 (by rw [ui_at, pk_un (by decide), ui_at, pk_un (by decide), ui_at, pk_us]; rfl) (by rw [ui_at, pk_un (by decide), ui_at, pk_us]; rfl) ⟨0, Nat.le_refl _, hd.ag (fun i _ _ => by rw [ui_ne (by omega), ui_ne (by omega), ui_ne (by omega)])⟩ ⟨by decide, by decide⟩ (by show 0 ≤ _; omega)) ((((hA.mono (by simp +contextual)).ui (by decide)).ui (by decide)).ui (by decide))
  exact this
def v_fault (m : Mt) : Int32 := nI (fl q0 (mP m))
theorem x_fault (h : InvX S m) (hm : MOk m) : Sp (l, wX, D, ad, cA) 7 m_SB_fault [.ref 0] S (fun v S' => v = .int (v_fault m) ∧ InvX S' m) := by
  refine Sp.of dk_SB_fault ok_SB_fault rfl (g_ld rfl rfl rfl (g_gr rfl rfl rfl rfl rfl (g_ld rfl rfl rfl (g_gr rfl rfl rfl rfl rfl (g_cv rfl (s_firstFault h hm) (by omega) rfl rfl rfl rfl rfl rfl rfl rfl rfl (fun zv8 zS8 zh8 => ?_))))))
  obtain ⟨rfl, hA, -⟩ := zh8
  refine (g_ri rfl rfl rfl ?_)
  refine ⟨by rw [Nat.zero_add]; rfl, h.scr (fun k hk hk2 => hA.1 k (by simp; omega)) (fun k hk => by rw [hA.1 41 (by decide)]; exact h.2.2.2.2.2.2.1 k hk)⟩
theorem s_isWhole : Sp (l, wX, D, ad, cA) 0 m_Rdr_isWhole [.ref 17] S (fun v S' => v = .int (b2 (S.1 17 1 = 4 ∧ S.1 17 2 = S.1 10 7 - 1)) ∧ S' = S) := by
  refine Sp.of dk_Rdr_isWhole ok_Rdr_isWhole rfl (g_ld rfl rfl rfl (g_gi rfl rfl rfl rfl rfl (g_c rfl rfl (g_if rfl rfl (fun zc5 => (g_c rfl rfl (g_ri rfl rfl rfl ?_))) (fun zc5 => (g_ld rfl rfl rfl (g_gi rfl rfl rfl rfl rfl (g_ld rfl rfl rfl (g_gr rfl rfl rfl rfl rfl (g_gi rfl rfl rfl rfl rfl (g_c rfl rfl (g_bin rfl rfl (g_if rfl rfl (fun zc21 => (g_c rfl rfl (g_ri rfl rfl rfl ?_))) (fun zc21 => (g_c rfl rfl (g_go rfl (g_ri rfl rfl rfl ?_)))))))))))))))))
  · exact v_int (b2_f (fun h => zc5 h.1)).symm rfl
  · exact v_int (b2_f (fun h => zc21 h.2)).symm rfl
  · exact v_int (b2_t ⟨Decidable.not_not.mp zc5, Decidable.not_not.mp zc21⟩).symm rfl
end
