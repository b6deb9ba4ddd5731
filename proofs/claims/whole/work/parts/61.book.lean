/-! takes, firstFault, fault -/
def ffPost (S0 : zS) (q : Ps) (t : List Nat) (i n : Nat) : Value → zS → Prop := fun v S' => v = .int (nI (i + fl q t)) ∧ Ag [10, 11, 12, 13, 14, 15, 16, 17] S0 S' ∧ ∀ q', fq q t = some q' → RdX S' q' n
section
variable {l : Launch} {D : va_G} {ad : Nat → Nat} {cA : ClassId} {x y z w : Int32} {S S' S0 : zS} {B : Bk} {K : Nat → Nat} {n p k b c s o j r : Nat} {q q' : Ps} {m : Mt}
theorem s_takes (h : RdX S q j) (hc : c ≤ 126) (hj : j < 90) : Sp (l, wX, D, ad, cA) 5 m_Rdr_takes [.ref 17, .int (nI c)] S (rdPost S q c j) := by
  have hQ := h.1
  have h4 := hQ.2.1
  refine Sp.of dk_Rdr_takes ok_Rdr_takes rfl (g_ld rfl rfl rfl (g_gi rfl rfl rfl rfl rfl ?_))
  rw [h.2.1]
  by_cases e0 : qH q = 0
  · rw [e0]
    refine g_tin (off := 36) (tgt := 40) rfl (by decide) (by decide) (by decide) (by decide) (g_ld rfl rfl rfl (g_ld rfl rfl rfl (g_cv rfl (s_takesCount h e0 hc hj) (by omega) rfl rfl rfl rfl rfl rfl rfl rfl rfl (fun zv42 zS42 zh42 => ?_))))
    have hz := zh42
    obtain ⟨-, ⟨-, rfl⟩ | ⟨-, -, rfl, -⟩⟩ := zh42
    · refine (g_ri rfl rfl ?_ ?_)
      · rfl
      · exact hz
    · refine (g_ri rfl rfl ?_ ?_)
      · rfl
      · exact hz
  by_cases e1 : qH q = 1
  · clear e0
    have e0 := e1
    rw [e1]
    refine g_tin (off := 42) (tgt := 46) rfl (by decide) (by decide) (by decide) (by decide) (g_ld rfl rfl rfl (g_ld rfl rfl rfl (g_cv rfl (s_takesBody h e0 hc hj) (by omega) rfl rfl rfl rfl rfl rfl rfl rfl rfl (fun zv48 zS48 zh48 => ?_))))
    have hz := zh48
    obtain ⟨-, ⟨-, rfl⟩ | ⟨-, -, rfl, -⟩⟩ := zh48
    · refine (g_ri rfl rfl ?_ ?_)
      · rfl
      · exact hz
    · refine (g_ri rfl rfl ?_ ?_)
      · rfl
      · exact hz
  by_cases e2 : qH q = 2
  · clear e0
    have e0 := e2
    rw [e2]
    refine g_tin (off := 48) (tgt := 52) rfl (by decide) (by decide) (by decide) (by decide) (g_ld rfl rfl rfl (g_ld rfl rfl rfl (g_cv rfl (s_takesAbove h e0 hc hj) (by omega) rfl rfl rfl rfl rfl rfl rfl rfl rfl (fun zv54 zS54 zh54 => ?_))))
    have hz := zh54
    obtain ⟨-, ⟨-, rfl⟩ | ⟨-, -, rfl, -⟩⟩ := zh54
    · refine (g_ri rfl rfl ?_ ?_)
      · rfl
      · exact hz
    · refine (g_ri rfl rfl ?_ ?_)
      · rfl
      · exact hz
  by_cases e3 : qH q = 3
  · clear e0
    have e0 := e3
    rw [e3]
    refine g_tin (off := 54) (tgt := 58) rfl (by decide) (by decide) (by decide) (by decide) (g_ld rfl rfl rfl (g_ld rfl rfl rfl (g_cv rfl (s_takesArgument h e0 hc hj) (by omega) rfl rfl rfl rfl rfl rfl rfl rfl rfl (fun zv60 zS60 zh60 => ?_))))
    have hz := zh60
    obtain ⟨-, ⟨-, rfl⟩ | ⟨-, -, rfl, -⟩⟩ := zh60
    · refine (g_ri rfl rfl ?_ ?_)
      · rfl
      · exact hz
    · refine (g_ri rfl rfl ?_ ?_)
      · rfl
      · exact hz
  by_cases e4 : qH q = 4
  · clear e0
    have e0 := e4
    rw [e4]
    refine g_tin (off := 60) (tgt := 64) rfl (by decide) (by decide) (by decide) (by decide) (g_ld rfl rfl rfl (g_ld rfl rfl rfl (g_cv rfl (s_takesMember h e0 hc hj) (by omega) rfl rfl rfl rfl rfl rfl rfl rfl rfl (fun zv66 zS66 zh66 => ?_))))
    have hz := zh66
    obtain ⟨-, ⟨-, rfl⟩ | ⟨-, -, rfl, -⟩⟩ := zh66
    · refine (g_ri rfl rfl ?_ ?_)
      · rfl
      · exact hz
    · refine (g_ri rfl rfl ?_ ?_)
      · rfl
      · exact hz
  · have e5 := q5_of hQ.1 e0 e1 e2 e3 e4
    have hN : qN q < bN (qB q) := hQ.2.2.2.2.2.1 (by omega)
    obtain ⟨k, hk, hd⟩ := h.2.2.2.1
    obtain ⟨h3, hO⟩ := h.2.2.2.2.1 (Or.inr e5)
    have ho0 : 0 < qO q := hQ.2.2.2.2.2.2.1 (Or.inr e5)
    have hM0 : 0 < bM (qB q) (qN q) := hQ.2.2.2.2.2.2.2.1 e5
    have hM3 := hQ.2.2.2.2.1 (qN q)
    have hO2 := h.2.2.2.2.2
    have ec : cur q = pl5 q := by unfold cur; rw [if_neg e3, if_pos e5]
    rw [ec] at hd h3
    have epl : pl5 q = 3 * qN q + (bM (qB q) (qN q) - 1) := rfl
    have e : stp q c = st5 q c := stp_5 e5
    unfold st5 at e
    rw [e5]
    refine g_tout (tgt := 70) rfl (by decide) (by decide) (g_ld rfl rfl rfl (g_ld rfl rfl rfl (g_ld rfl rfl rfl (g_cv rfl (s_signOf hd.un h4 hQ.2.2.2.1 hQ.2.2.1 h.2.2.1 (by omega) hc) (by omega) rfl rfl rfl rfl rfl rfl rfl rfl rfl (z_k1 ?_)))))
    cases hs : sg (qB q) (qN q) c with
    | none =>
      rw [hs] at e
      have hsi : sgI (qB q) (qN q) c = -1 := by unfold sgI; rw [hs]
      refine (g_cv rfl (s_takesNo hsi) (by omega) rfl rfl rfl rfl rfl rfl rfl rfl rfl (fun zv76 zS76 zh76 => ?_))
      obtain ⟨rfl, rfl⟩ := zh76
      refine (g_ri rfl rfl ?_ ?_)
      · rfl
      · exact rd_no Ag.rf e rfl
    | some s =>
      have hs6 := sg6' hQ hs
      have hsi : sgI (qB q) (qN q) c = nI s := by unfold sgI; rw [hs]
      rw [hs] at e
      have hP2 := hQ.2.2.1 s
      have e' : stp q c = some (stS q 5 (pl5 q) (qO q - 1) s) := e
      refine (g_cv rfl (s_takesSign (o := qO q - 1) hd h4 hQ.2.2.2.1 hQ.2.2.1 (by omega) (by omega) h3 (by rw [hO, Nat.sub_add_cancel ho0]) (by omega) hs6 hsi) (by omega) rfl rfl rfl rfl rfl rfl rfl rfl rfl (fun zv76 zS76 zh76 => ?_))
      have hz := zh76
      obtain ⟨rfl, hA, -⟩ := zh76
      refine (g_ri rfl rfl ?_ ?_)
      · rfl
      · exact rd_yes (hA.mono (by simp +contextual)) e' rfl (RdX.ofS (qok_step hQ e') hz (by rw [h.2.1, e5]) h.2.2.1 h3 (by omega) (Or.inr ⟨rfl, rfl⟩) (by omega))
end
