/-! restore, see -/
section
variable {l : Launch} {D : va_G} {ad : Nat → Nat} {cA : ClassId} {x y z w : Int32} {S S' : zS} {m : Mt} {B : Bk} {kd : Nat → Nat} {r q n : Nat}
theorem zgd_end {α : Type} (t : List α) (a d : α) : (t ++ [a]).getD t.length d = a := by simp [List.getD_eq_getElem?_getD]
theorem zgd_lt {α : Type} {t u : List α} {d : α} {i : Nat} (h : i < t.length) : (t ++ u).getD i d = t.getD i d := by
  rw [List.getD_eq_getElem?_getD, List.getD_eq_getElem?_getD, List.getElem?_append_left h]
def v_restore (m : Mt) : Int32 := match mI m with | none => -103 | some k => nI (cntS k.2.1 8)
def m_restore (m : Mt) : Mt := match mI m with | none => m | some k => m_now m k
theorem x_restore (h : InvX S m) (hm : MOk m) : Sp (l, wX, D, ad, cA) 6 m_SB_restore [.ref 0] S (fun v S' => v = .int (v_restore m) ∧ InvX S' (m_restore m)) := by
  have hF := h.2.2.2.2.2.2.2.1
  unfold v_restore m_restore
  refine Sp.of dk_SB_restore ok_SB_restore rfl (g_ld rfl rfl rfl (g_gi rfl rfl rfl rfl rfl (g_if rfl rfl (fun zc4 => ?_) (fun zc4 => (g_c rfl rfl (g_ri rfl rfl rfl ?_))))))
  · rw [hF] at zc4
    have a := b2_n.mp zc4
    obtain ⟨k, e⟩ := Option.isSome_iff_exists.mp a
    have hk := h.2.2.2.2.2.2.2.2.1 k e
    have ho := (hm.2.2.2.2.1 k e).1
    rw [e]
    refine (g_ld rfl rfl rfl (g_gr rfl rfl rfl rfl rfl (g_ld rfl rfl rfl (g_gr rfl rfl rfl rfl rfl (g_cv rfl (s_hcopy (Or.inl ⟨rfl, rfl⟩)) (by omega) rfl rfl rfl rfl rfl rfl rfl rfl rfl (fun zv18 zS18 zh18 => ?_))))))
    obtain ⟨rfl, hA1, a1, a2, a3, a4, a5, a6⟩ := zh18
    have hk2 : KpX zS18 18 k := KpX.cp (r := 18) (o := 24) (S := S) (S' := zS18) hk (fun s hs => KpOk.len ho hs) ho.2.2.1 a1 a2 a3 a4 a5 a6
    have hB2 : BkX zS18 3 (mB m) := h.2.2.1.ag (fun k h3 h9 => hA1.1 k (by simp; omega))
    have hK2 : KdX zS18 k.1 := ⟨ho.1, hk2.1⟩
    refine (g_ld rfl rfl rfl (g_gr rfl rfl rfl rfl rfl (g_ld rfl rfl rfl (g_gr rfl rfl rfl rfl rfl (g_gr rfl rfl rfl rfl rfl (g_c rfl rfl (g_cv rfl (s_settle0 (Or.inl ⟨rfl, rfl⟩) hB2 hm.2.2.1 hK2) (by omega) rfl rfl rfl rfl rfl rfl rfl rfl rfl (fun zv33 zS33 zh33 => ?_))))))))
    obtain ⟨rfl, hW3, hr3, hA3⟩ := zh33
    refine (g_ld rfl rfl rfl (g_gr rfl rfl rfl rfl rfl (g_cv rfl (s_filledSlots) (by omega) rfl rfl rfl rfl rfl rfl rfl rfl rfl (z_k1 (g_ri rfl rfl rfl ?_)))))
    have kA : ∀ k, ¬ (18 ≤ k ∧ k ≤ 23) → ¬ (30 ≤ k ∧ k ≤ 33) → zS33.1 k = S.1 k := fun k g1 g2 => by rw [hA3.1 k (by simp; omega), hA1.1 k (by simp; omega)]
    have hk3 : KpX zS33 18 k := by
      unfold KpX at hk2 ⊢
      rw [hA3.1 _ (by decide), hA3.1 _ (by decide), hA3.1 _ (by decide), hA3.1 _ (by decide), hA3.1 _ (by decide), hA3.1 _ (by decide)]
      exact hk2
    refine ⟨?_, ?_⟩
    · rw [cnt_eq (S := zS33) (sl := k.2.1) (fun s hs => ⟨(hk3.2.1 s hs).1, KpOk.len ho hs⟩) 8 (by omega)]
    · exact h.now (fun k hk hk2 => kA k (by omega) (by omega)) (fun k hk => by rw [kA 41 (by decide) (by decide)]; exact h.2.2.2.2.2.2.1 k hk) hk3 hW3 hr3
  · rw [hF] at zc4
    have a := b2_0.mp (Decidable.not_not.mp zc4)
    have e : mI m = none := by simpa using a
    rw [e]
    exact ⟨rfl, h⟩
def mskI (k : Nat) (w : Int32) : Int32 := if w = 0 then 31 &&& (kcT k ^^^ (-1)) else kcT k
theorem mskI_n (k : Nat) (hk : k < 3) (hw : w = 0 ∨ w = 1) : mskI k w = nI (mskI k w).toNatClampNeg ∧ (mskI k w).toNatClampNeg < 32 := by
  have : k = 0 ∨ k = 1 ∨ k = 2 := by omega
  rcases hw with rfl | rfl <;> rcases this with rfl | rfl | rfl <;> decide
def v_see (m : Mt) (x y z : Int32) : Int32 := if 0 ≤ y ∧ y < gM m x then (if 0 ≤ z ∧ z ≤ 2 then (if (mE m).length = 6 then -104 else nI ((mE m).length + 1)) else -102) else -101
def m_see (m : Mt) (x y z w : Int32) : Mt := if 0 ≤ y ∧ y < gM m x then (if 0 ≤ z ∧ z ≤ 2 then (if (mE m).length = 6 then m else m_now m (mK m, mS m, mE m ++ [((3 * x + y).toNatClampNeg, (mskI z.toNatClampNeg w).toNatClampNeg)])) else m) else m
theorem x_see (h : InvX S m) (hm : MOk m) (hw : w = 0 ∨ w = 1) : Sp (l, wX, D, ad, cA) 2 m_SB_see [.ref 0, .int x, .int y, .int z, .int w] S (fun v S' => v = .int (v_see m x y z) ∧ InvX S' (m_see m x y z w)) := by
  have hM := gM_eq (m := m) h.2.2.1 x
  have hl6 : (mE m).length ≤ 6 := hm.2.2.2.1.2.2.1
  have hs5 : S.1 18 5 = nI (mE m).length := h.2.2.2.1.2.2.1
  unfold v_see m_see
  refine Sp.of dk_SB_see ok_SB_see rfl (g_ld rfl rfl rfl (g_gr rfl rfl rfl rfl rfl (g_ld rfl rfl rfl (g_ld rfl rfl rfl (g_cv rfl (s_hasMember (by decide)) (by omega) rfl rfl rfl rfl rfl rfl rfl rfl rfl (z_k1 (g_if rfl rfl (fun zc9 => (g_ld rfl rfl rfl (g_if rfl rfl (fun zc16 => (g_c rfl rfl (g_ri rfl rfl rfl ?_))) (fun zc16 => (g_ld rfl rfl rfl (g_c rfl rfl (g_if rfl rfl (fun zc21 => ?_) (fun zc21 => (g_c rfl rfl (g_ri rfl rfl rfl ?_)))))))))) (fun zc9 => (g_c rfl rfl (g_ri rfl rfl rfl ?_))))))))))
  · have a := b2_n.mp zc9
    rw [hM] at a
    have b : ¬ (0 ≤ z ∧ z ≤ 2) := fun q => absurd q.1 (i_ng zc16)
    rw [if_pos a, if_pos a, if_neg b, if_neg b]; exact ⟨rfl, h⟩
  · have a := b2_n.mp zc9
    rw [hM] at a
    have b : 0 ≤ z ∧ z ≤ 2 := ⟨i_ge zc16, zc21⟩
    rw [if_pos a, if_pos a, if_pos b, if_pos b]
    obtain ⟨c, j, hc, hj, e1, e2, hp, hp12, hcn⟩ := mem_in hm a
    obtain ⟨k, hk3, rfl, ek2⟩ := in_cl (x := z) (n := 3) b.1 (by
      rw [Int32.lt_iff_toInt_lt]
      have := Int32.le_iff_toInt_le.mp b.2
      have a1 : (2 : Int32).toInt = 2 := by decide
      have a2 : (Int32.ofNat 3).toInt = 3 := by decide
      omega)
    refine (g_ld rfl rfl rfl (g_gr rfl rfl rfl rfl rfl (g_ld rfl rfl rfl (g_ld rfl rfl rfl (g_cs rfl (s_placeOf) (by omega) rfl rfl rfl rfl rfl rfl (z_k1 (g_ld rfl rfl rfl (g_ld rfl rfl rfl (g_cv rfl (s_addSeen hl6 hs5 hk3 hw) (by omega) rfl rfl rfl rfl rfl rfl rfl rfl rfl (fun zv39 zS39 zh39 => ?_))))))))))
    rcases zh39 with ⟨h6, rfl, rfl⟩ | ⟨h6, rfl, rfl⟩
    · refine (g_if rfl rfl (fun zc42 => (g_c rfl rfl (g_ri rfl rfl rfl ?_))) (fun zc42 => (g_ld rfl rfl rfl (g_gr rfl rfl rfl rfl rfl (g_gi rfl rfl rfl rfl rfl (g_go rfl (g_ri rfl rfl rfl ?_)))))))
      · rw [if_pos h6, if_pos h6]; exact ⟨rfl, h⟩
      · exact absurd rfl zc42
    · have h6' : ¬ (mE m).length = 6 := by omega
      refine (g_if rfl rfl (fun zc42 => (g_c rfl rfl (g_ri rfl rfl rfl ?_))) (fun zc42 => (g_ld rfl rfl rfl (g_gr rfl rfl rfl rfl rfl (g_gi rfl rfl rfl rfl rfl (g_go rfl (g_ri rfl rfl rfl ?_)))))))
      · exact absurd zc42 (by decide)
      · rw [if_neg h6', if_neg h6', ek2, hp, nI_clamp (by omega)]
        refine ⟨?_, ?_⟩
        · rw [ui_at, pk_us]
        · obtain ⟨k1, k2⟩ := mskI_n (w := w) k hk3 hw
          rw [show (if w = 0 then 31 &&& (kcT k ^^^ (-1)) else kcT k) = mskI k w from rfl]
          have hA : Ag [18, 22, 23] S (z_ui (z_ui (z_ui S 22 (mE m).length (nI (3 * c + j))) 23 (mE m).length (mskI k w)) 18 5 (nI ((mE m).length + 1))) := ((Ag.rf.ui (by decide)).ui (by decide)).ui (by decide)
          refine h.now (fun k hk hk2 => hA.1 k (by simp; omega)) (fun k hk => by rw [hA.1 41 (by decide)]; exact h.2.2.2.2.2.2.1 k hk) ⟨?_, ?_, ?_, ?_⟩ (h.2.2.2.2.1.ag (hA.1 _ (by decide))) (by rw [hA.1 _ (by decide)]; exact h.2.2.2.2.2.1)
          · rw [hA.1 _ (by decide)]; exact h.2.2.2.1.1
          · rw [hA.1 _ (by decide), hA.1 _ (by decide)]; exact h.2.2.2.1.2.1
          · rw [ui_at, pk_us]; simp
          · intro i hi
            simp only [List.length_append, List.length_singleton] at hi
            have g4 := h.2.2.2.1.2.2.2
            rw [show 18 + 4 = 22 from rfl, show 18 + 5 = 23 from rfl] at g4 ⊢
            rw [ui_ne (by decide), ui_ne (by decide), ui_at, ui_ne (by decide), ui_at]
            by_cases e : i = (mE m).length
            · subst e
              rw [pk_us, pk_us]
              dsimp only
              rw [zgd_end]
              exact ⟨rfl, k1⟩
            · rw [pk_un e, pk_un e, ui_ne (by decide)]
              dsimp only
              rw [zgd_lt (by omega)]
              exact g4 i (by show i < (mE m).length; omega)
  · have a := b2_n.mp zc9
    rw [hM] at a
    have b : ¬ (0 ≤ z ∧ z ≤ 2) := fun q => zc21 q.2
    rw [if_pos a, if_pos a, if_neg b, if_neg b]; exact ⟨rfl, h⟩
  · have a := b2_0.mp (Decidable.not_not.mp zc9)
    rw [hM] at a
    rw [if_neg a, if_neg a]; exact ⟨rfl, h⟩
end
