/-! the reference: isGood, faultOf, fault -/
def foPost (S0 : zS) (pg : List Nat) (q : Ps) (t : List Nat) (i n : Nat) : Value → zS → Prop := fun v S' => v = .int (nI (i + fl q t)) ∧ Am [2, 3, 4, 5] [2, 3, 4, 5] S0 S' ∧ ∀ q', fq q t = some q' → RmX S' pg q' n
section
variable {l : Launch} {D : va_G} {ad : Nat → Nat} {cA : ClassId} {x y z w : Int32} {S S' S0 : zS} {m : Mt} {B : Bk} {pg t : List Nat} {n p k r c j s o : Nat} {q q' : Ps} {Q : Nat → Prop}
theorem s_isGood (h : RmX S pg q j) (hw : QW q) (hc : c ≤ 126) (hj : pg.getD j 0 = c) (hj90 : j < 90) (h1 : S.1 1 j = nI c) : Sp (l, wM, D, ad, cA) 3 m_M_isGood [.ref 0, .int (nI j)] S (gdPost S pg q c j) := by
  have hQ := h.1
  have h4 := hQ.2.1
  refine Sp.of dk_M_isGood ok_M_isGood rfl (g_ld rfl rfl rfl (g_gr rfl rfl rfl rfl rfl (g_ld rfl rfl rfl (g_ald rfl rfl rfl ?_ (g_st rfl rfl rfl rfl rfl (g_ld rfl rfl rfl (g_gi rfl rfl rfl rfl rfl ?_)))))))
  · exact vp_in_nI hj90 (by decide)
  rw [h.2.1, nI_clamp (by omega), h1]
  by_cases e0 : qH q = 0
  · rw [e0]
    refine g_tin (off := 33) (tgt := 44) rfl (by decide) (by decide) (by decide) (by decide) (g_ld rfl rfl rfl (g_ld rfl rfl rfl (g_cv rfl (s_isCount h e0 hc hw) (by omega) rfl rfl rfl rfl rfl rfl rfl rfl rfl (fun zv46 zS46 zh46 => ?_))))
    have hz := zh46
    obtain ⟨-, ⟨-, rfl⟩ | ⟨-, -, rfl, -⟩⟩ := zh46
    · refine (g_ri rfl rfl ?_ ?_)
      · rfl
      · exact hz
    · refine (g_ri rfl rfl ?_ ?_)
      · rfl
      · exact hz
  by_cases e1 : qH q = 1
  · clear e0
    have e0 := e1
    rw [e1]
    refine g_tin (off := 39) (tgt := 50) rfl (by decide) (by decide) (by decide) (by decide) (g_ld rfl rfl rfl (g_ld rfl rfl rfl (g_ld rfl rfl rfl (g_cv rfl (s_isBegun h e0 hc) (by omega) rfl rfl rfl rfl rfl rfl rfl rfl rfl (fun zv53 zS53 zh53 => ?_)))))
    have hz := zh53
    obtain ⟨-, ⟨-, rfl⟩ | ⟨-, -, rfl, -⟩⟩ := zh53
    · refine (g_ri rfl rfl ?_ ?_)
      · rfl
      · exact hz
    · refine (g_ri rfl rfl ?_ ?_)
      · rfl
      · exact hz
  by_cases e2 : qH q = 2
  · clear e0
    have e0 := e2
    rw [e2]
    refine g_tin (off := 46) (tgt := 57) rfl (by decide) (by decide) (by decide) (by decide) (g_ld rfl rfl rfl (g_ld rfl rfl rfl (g_ld rfl rfl rfl (g_cv rfl (s_isAboveSign h e0 hc hj hj90) (by omega) rfl rfl rfl rfl rfl rfl rfl rfl rfl (fun zv60 zS60 zh60 => ?_)))))
    have hz := zh60
    obtain ⟨-, ⟨-, rfl⟩ | ⟨-, -, rfl, -⟩⟩ := zh60
    · refine (g_ri rfl rfl ?_ ?_)
      · rfl
      · exact hz
    · refine (g_ri rfl rfl ?_ ?_)
      · rfl
      · exact hz
  by_cases e3 : qH q = 3
  · clear e0
    have e0 := e3
    rw [e3]
    refine g_tin (off := 53) (tgt := 64) rfl (by decide) (by decide) (by decide) (by decide) (g_ld rfl rfl rfl (g_ld rfl rfl rfl (g_cv rfl (s_isArgument h e0 hc hj hj90) (by omega) rfl rfl rfl rfl rfl rfl rfl rfl rfl (fun zv66 zS66 zh66 => ?_))))
    have hz := zh66
    obtain ⟨-, ⟨-, rfl⟩ | ⟨-, -, rfl, -⟩⟩ := zh66
    · refine (g_ri rfl rfl ?_ ?_)
      · rfl
      · exact hz
    · refine (g_ri rfl rfl ?_ ?_)
      · rfl
      · exact hz
  by_cases e4 : qH q = 4
  · clear e0
    have e0 := e4
    rw [e4]
    refine g_tin (off := 59) (tgt := 70) rfl (by decide) (by decide) (by decide) (by decide) (g_ld rfl rfl rfl (g_ld rfl rfl rfl (g_ld rfl rfl rfl (g_cv rfl (s_isMember h e0 hc hj hj90) (by omega) rfl rfl rfl rfl rfl rfl rfl rfl rfl (fun zv73 zS73 zh73 => ?_)))))
    have hz := zh73
    obtain ⟨-, ⟨-, rfl⟩ | ⟨-, -, rfl, -⟩⟩ := zh73
    · refine (g_ri rfl rfl ?_ ?_)
      · rfl
      · exact hz
    · refine (g_ri rfl rfl ?_ ?_)
      · rfl
      · exact hz
  · have e5 := q5_of hQ.1 e0 e1 e2 e3 e4
    clear e0
    have e0 := e5
    rw [e5]
    refine g_tout (tgt := 77) rfl (by decide) (by decide) (g_ld rfl rfl rfl (g_ld rfl rfl rfl (g_cv rfl (s_isTypeSign h e0 hc hj hj90) (by omega) rfl rfl rfl rfl rfl rfl rfl rfl rfl (fun zv79 zS79 zh79 => ?_))))
    have hz := zh79
    obtain ⟨-, ⟨-, rfl⟩ | ⟨-, -, rfl, -⟩⟩ := zh79
    · refine (g_ri rfl rfl ?_ ?_)
      · rfl
      · exact hz
    · refine (g_ri rfl rfl ?_ ?_)
      · rfl
      · exact hz
theorem lp_fo (h : InvM S0 m) (hm : MOk m) : ∀ (k i : Nat) (q : Ps) (S : zS), i + k = (mP m).length → RmX S (mP m) q i → QW q → Am [2, 3, 4, 5] [2, 3, 4, 5] S0 S → Go (l, wM, D, ad, cA) 4 m_M_faultOf (foPost S0 (mP m) q ((mP m).drop i) i (mP m).length) 17 [some (.ref 0), some (.int (nI i))] [] S
  | 0, i, q, S, e, hR, hw, hA => by
    have h90 := hm.1
    have hd : (mP m).drop i = [] := List.drop_eq_nil_of_le (by omega)
    have ei : i = (mP m).length := by omega
    rw [hd]
    refine (g_ld rfl rfl rfl (g_ld rfl rfl rfl (g_gi rfl rfl rfl rfl rfl (g_if rfl rfl (fun zc22 => (g_ld rfl rfl rfl (g_ri rfl rfl rfl ?_))) (fun zc22 => ?_)))))
    · refine ⟨rfl, hA, fun q' hq => ?_⟩
      rw [fq] at hq
      cases hq
      rw [← ei]
      exact hR
    · rw [hA.2.1 1 (by decide), h.1] at zc22
      have := nle_n zc22
      omega
  | k + 1, i, q, S, e, hR, hw, hA => by
    have h90 := hm.1
    have hi : i < (mP m).length := by omega
    have h1 : S.1 1 i = nI ((mP m).getD i 0) := by
      rw [hA.1 1 (by decide) (by decide)]
      have := h.2.1 i hi
      rw [Nat.zero_add] at this
      exact this
    have hc126 : (mP m).getD i 0 ≤ 126 := by
      rw [List.getD_eq_getElem?_getD, List.getElem?_eq_getElem hi]
      exact (hm.2.1 _ (List.getElem_mem hi)).2
    rw [drop_at hi]
    refine (g_ld rfl rfl rfl (g_ld rfl rfl rfl (g_gi rfl rfl rfl rfl rfl (g_if rfl rfl (fun zc22 => (g_ld rfl rfl rfl (g_ri rfl rfl rfl ?_))) (fun zc22 => (g_ld rfl rfl rfl (g_ld rfl rfl rfl (g_cv rfl (s_isGood hR hw hc126 rfl (by omega) h1) (by omega) rfl rfl rfl rfl rfl rfl rfl rfl rfl (fun zv27 zS27 zh27 => ?_)))))))))
    · rw [hA.2.1 1 (by decide), h.1] at zc22
      have := le_n zc22
      omega
    · obtain ⟨hA2, ⟨hn, rfl⟩ | ⟨q2, hs, rfl, hR2⟩⟩ := zh27
      · refine (g_if rfl rfl (fun zc30 => (g_ld rfl rfl rfl (g_ri rfl rfl rfl ?_))) (fun zc30 => (g_inc rfl rfl rfl rfl (g_go rfl ?_))))
        · refine ⟨?_, hA.tr hA2, fun q' hq => ?_⟩
          · rw [fl, hn]; rfl
          · rw [fq, hn] at hq
            cases hq
        · exact absurd rfl zc30
      · refine (g_if rfl rfl (fun zc30 => (g_ld rfl rfl rfl (g_ri rfl rfl rfl ?_))) (fun zc30 => (g_inc rfl rfl rfl rfl (g_go rfl ?_))))
        · exact absurd zc30 (by decide)
        · have := lp_fo h hm k (i + 1) q2 zS27 (by omega) hR2 (qw_step hR.1 hw hs) (hA.tr hA2)
          have ef : foPost S0 (mP m) q ((mP m).getD i 0 :: (mP m).drop (i + 1)) i (mP m).length = foPost S0 (mP m) q2 ((mP m).drop (i + 1)) (i + 1) (mP m).length := by
            unfold foPost
            rw [fl, fq, hs]
            show (fun v S' => v = Value.int (nI (i + (fl q2 ((mP m).drop (i + 1)) + 1))) ∧ _) = _
            rw [show i + (fl q2 ((mP m).drop (i + 1)) + 1) = i + 1 + fl q2 ((mP m).drop (i + 1)) by omega]
          rw [ef]
          rw [nI_succ] at this
          exact this
theorem s_faultOf (h : InvM S m) (hm : MOk m) : Sp (l, wM, D, ad, cA) 4 m_M_faultOf [.ref 0] S (foPost S (mP m) q0 (mP m) 0 (mP m).length) := by
  refine Sp.of dk_M_faultOf ok_M_faultOf rfl (g_ld rfl rfl rfl (g_c rfl rfl (g_pi rfl rfl rfl rfl rfl rfl rfl (g_ld rfl rfl rfl (g_c rfl rfl (g_pi rfl rfl rfl rfl rfl rfl rfl (g_ld rfl rfl rfl (g_c rfl rfl (g_pi rfl rfl rfl rfl rfl rfl rfl (g_c rfl rfl (g_st rfl rfl rfl rfl rfl ?_)))))))))))
  refine lp_fo h hm (mP m).length 0 q0 _ (by omega) ?_ qw0 (((Am.rf.fd (by decide)).fd (by decide)).fd (by decide))
  refine ⟨qok0, ?_, ?_, ?_, fun z => absurd z (by decide), fun k hk => absurd hk (Nat.not_lt_zero _), fun k hk => ?_, fun k hk hne => absurd rfl hne, fun k i hk hi => absurd hi (Nat.not_lt_zero _), fun _ _ _ => rfl, fun z => absurd z (by decide), by show 0 ≤ _; omega⟩
  · rw [ui_at, pk_un (by decide), ui_at, pk_un (by decide), ui_at, pk_us]; rfl
  · rw [ui_at, pk_un (by decide), ui_at, pk_us]; rfl
  · rw [ui_at, pk_us]; rfl
  · have hk : k < 0 ∨ (k = 0 ∧ 2 ≤ 0) := hk
    omega
theorem y_fault (h : InvM S m) (hm : MOk m) : Sp (l, wM, D, ad, cA) 5 m_M_fault [.ref 0] S (fun v S' => v = .int (v_fault m) ∧ InvM S' m) := by
  refine Sp.of dk_M_fault ok_M_fault rfl (g_ld rfl rfl rfl (g_cv rfl (s_faultOf h hm) (by omega) rfl rfl rfl rfl rfl rfl rfl rfl rfl (fun zv1 zS1 zh1 => ?_)))
  obtain ⟨rfl, hA, -⟩ := zh1
  refine (g_ri rfl rfl rfl ?_)
  exact ⟨by rw [Nat.zero_add]; rfl, h.sc hA.sc⟩
end
