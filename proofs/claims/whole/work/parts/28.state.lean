/-! the mathematical state, and the program's relation to it -/
abbrev Kp : Type := (Nat → Nat) × (Nat → List Nat) × List (Nat × Nat)
abbrev Mt : Type := List Nat × Bk × Kp × Option Kp × Nat × Nat
def mP (m : Mt) : List Nat := m.1
def mB (m : Mt) : Bk := m.2.1
def mN (m : Mt) : Kp := m.2.2.1
def mI (m : Mt) : Option Kp := m.2.2.2.1
def mR (m : Mt) : Nat := m.2.2.2.2.1
def mH (m : Mt) : Nat := m.2.2.2.2.2
def mK (m : Mt) : Nat → Nat := (mN m).1
def mS (m : Mt) : Nat → List Nat := (mN m).2.1
def mE (m : Mt) : List (Nat × Nat) := (mN m).2.2
def KpOk (B : Bk) (k : Kp) : Prop := (∀ p, k.1 p < 5) ∧ (∀ s, s < 8 → k.2.1 s = [] ∨ (CT B (k.2.1 s) ∧ (k.2.1 s).length ≤ 15)) ∧ k.2.2.length ≤ 6 ∧ ∀ q ∈ k.2.2, q.1 < 12 ∧ q.2 < 32
def MOk (m : Mt) : Prop := (mP m).length ≤ 90 ∧ (∀ c ∈ mP m, 1 ≤ c ∧ c ≤ 126) ∧ WfB (mB m) ∧ KpOk (mB m) (mN m) ∧ (∀ k, mI m = some k → KpOk (mB m) k ∧ 0 < bN (mB m)) ∧ mR m ≤ 4096 ∧ mH m ≤ 12
/-- a Holding at r -/
def KpX (S : zS) (r : Nat) (k : Kp) : Prop := (∀ p, p < 12 → S.1 (r + 1) p = nI (k.1 p)) ∧ (∀ s, s < 8 → S.1 (r + 2) s = nI (k.2.1 s).length ∧ At (S.1 (r + 3)) (15 * s) (k.2.1 s)) ∧ S.1 r 5 = nI k.2.2.length ∧ ∀ i, i < k.2.2.length → S.1 (r + 4) i = nI (k.2.2.getD i (0, 0)).1 ∧ S.1 (r + 5) i = nI (k.2.2.getD i (0, 0)).2
def InvX (S : zS) (m : Mt) : Prop := S.1 1 1 = nI (mP m).length ∧ At (S.1 2) 0 (mP m) ∧ BkX S 3 (mB m) ∧ KpX S 18 (mN m) ∧ WyR S 30 (wy (mB m) (mK m)) ∧ S.1 30 4 = nI (rnd (mB m) (mK m)) ∧ (∀ k, k < 4 → S.1 41 k = nI k) ∧ S.1 0 11 = b2 ((mI m).isSome = true) ∧ (∀ k, mI m = some k → KpX S 24 k) ∧ S.1 0 12 = nI (mR m) ∧ S.1 0 13 = nI (mH m)
def gP (m : Mt) (x : Int32) : Int32 := if 0 ≤ x ∧ x < 4 then nI (bP (mB m) x.toNatClampNeg) else 0
def gM (m : Mt) (x : Int32) : Int32 := if 0 ≤ x ∧ x < 4 then nI (bM (mB m) x.toNatClampNeg) else 0
def gK (m : Mt) (x y : Int32) : Int32 := if 0 ≤ 3 * x + y ∧ 3 * x + y < 12 then nI (mK m (3 * x + y).toNatClampNeg) else 3
theorem in_cl {x : Int32} {n : Nat} (h0 : 0 ≤ x) (h1 : x < Int32.ofNat n) (hn : n < 2 ^ 31 := by decide) : ∃ j, j < n ∧ x = nI j ∧ x.toNatClampNeg = j := by
  obtain ⟨j, hj, rfl⟩ := vp_in_of (t_in h0 h1 hn) hn
  exact ⟨j, hj, rfl, nI_clamp (by omega)⟩
theorem gP_eq {S : zS} {m : Mt} (h : BkX S 3 (mB m)) (x : Int32) : f_par S 3 x = gP m x := by
  unfold f_par gP
  by_cases hx : 0 ≤ x ∧ x < 4
  · obtain ⟨j, hj, -, e⟩ := in_cl (n := 4) hx.1 hx.2
    rw [if_pos hx, if_pos hx, e]; exact h.2.1 j hj
  · rw [if_neg hx, if_neg hx]
theorem gM_eq {S : zS} {m : Mt} (h : BkX S 3 (mB m)) (x : Int32) : f_mem S 3 x = gM m x := by
  unfold f_mem gM
  by_cases hx : 0 ≤ x ∧ x < 4
  · obtain ⟨j, hj, -, e⟩ := in_cl (n := 4) hx.1 hx.2
    rw [if_pos hx, if_pos hx, e]; exact h.2.2.1 j hj
  · rw [if_neg hx, if_neg hx]
theorem gK_eq {S : zS} {m : Mt} (h : KpX S 18 (mN m)) (x y : Int32) : f_kind S 18 (3 * x + y) = gK m x y := by
  unfold f_kind gK
  by_cases hx : 0 ≤ 3 * x + y ∧ 3 * x + y < 12
  · obtain ⟨j, hj, -, e⟩ := in_cl (n := 12) hx.1 hx.2
    rw [if_pos hx, if_pos hx, e]; exact h.1 j hj
  · rw [if_neg hx, if_neg hx]
def isMem (m : Mt) (x y : Int32) : Prop := 0 ≤ y ∧ y < gM m x
def v_as (m : Mt) (x y z : Int32) : Int32 := if 0 ≤ y ∧ y < gM m x then (if 0 ≤ z ∧ z ≤ 4 then (if z = gK m x y ∨ z = 0 ∨ (z = 2 ∧ gK m x y = 4) then y else -1) else -102) else -101
section
variable {l : Launch} {D : va_G} {ad : Nat → Nat} {cA : ClassId} {x y z : Int32} {S : zS} {m : Mt}
theorem x_as (h : InvX S m) : Sp (l, wX, D, ad, cA) 2 m_SB_as [.ref 0, .int x, .int y, .int z] S (fun v S' => v = .int (v_as m x y z) ∧ S' = S) := by
  have hM := gM_eq (m := m) h.2.2.1 x
  have hK := gK_eq (m := m) h.2.2.2.1 x y
  unfold v_as
  refine Sp.of dk_SB_as ok_SB_as rfl (g_ld rfl rfl rfl (g_gr rfl rfl rfl rfl rfl (g_ld rfl rfl rfl (g_ld rfl rfl rfl (g_cv rfl (s_hasMember (by decide)) (by omega) rfl rfl rfl rfl rfl rfl rfl rfl rfl (z_k1 (g_if rfl rfl (fun zc9 => (g_ld rfl rfl rfl (g_if rfl rfl (fun zc16 => (g_c rfl rfl (g_ri rfl rfl rfl ?_))) (fun zc16 => (g_ld rfl rfl rfl (g_c rfl rfl (g_if rfl rfl (fun zc21 => (g_ld rfl rfl rfl (g_gr rfl rfl rfl rfl rfl (g_ld rfl rfl rfl (g_ld rfl rfl rfl (g_cs rfl (s_placeOf) (by omega) rfl rfl rfl rfl rfl rfl (z_k1 (g_cv rfl (s_kindOf (by decide)) (by omega) rfl rfl rfl rfl rfl rfl rfl rfl rfl (z_k1 (g_ld rfl rfl rfl (g_cs rfl (s_isOfKind) (by omega) rfl rfl rfl rfl rfl rfl (z_k1 (g_if rfl rfl (fun zc43 => (g_c rfl rfl (g_ri rfl rfl rfl ?_))) (fun zc43 => (g_ld rfl rfl rfl (g_go rfl (g_ri rfl rfl rfl ?_))))))))))))))))) (fun zc21 => (g_c rfl rfl (g_ri rfl rfl rfl ?_)))))))))) (fun zc9 => (g_c rfl rfl (g_ri rfl rfl rfl ?_))))))))))
  · have a := b2_n.mp zc9
    rw [hM] at a
    rw [if_pos a, if_neg (fun q => absurd q.1 (i_ng zc16))]; exact ⟨rfl, rfl⟩
  · have a := b2_n.mp zc9
    rw [hM] at a
    have b := b2_0.mp zc43
    rw [hK] at b
    rw [if_pos a, if_pos ⟨i_ge zc16, zc21⟩, if_neg b]; exact ⟨rfl, rfl⟩
  · have a := b2_n.mp zc9
    rw [hM] at a
    have b := b2_n.mp zc43
    rw [hK] at b
    rw [if_pos a, if_pos ⟨i_ge zc16, zc21⟩, if_pos b]; exact ⟨rfl, rfl⟩
  · have a := b2_n.mp zc9
    rw [hM] at a
    rw [if_pos a, if_neg (fun q => zc21 q.2)]; exact ⟨rfl, rfl⟩
  · have a := b2_0.mp (Decidable.not_not.mp zc9)
    rw [hM] at a
    rw [if_neg a]; exact ⟨rfl, rfl⟩
noncomputable def v_rounds (m : Mt) : Int32 := if bN (mB m) = 0 then -103 else nI (rnd (mB m) (mK m))
theorem x_rounds (h : InvX S m) (hm : MOk m) : Sp (l, wX, D, ad, cA) 0 m_SB_rounds [.ref 0] S (fun v S' => v = .int (v_rounds m) ∧ S' = S) := by
  have hB := h.2.2.1.1
  have h4 := hm.2.2.1.1
  unfold v_rounds
  refine Sp.of dk_SB_rounds ok_SB_rounds rfl (g_ld rfl rfl rfl (g_gr rfl rfl rfl rfl rfl (g_gi rfl rfl rfl rfl rfl (g_if rfl rfl (fun zc7 => (g_ld rfl rfl rfl (g_gr rfl rfl rfl rfl rfl (g_gi rfl rfl rfl rfl rfl (g_ri rfl rfl rfl ?_))))) (fun zc7 => (g_c rfl rfl (g_go rfl (g_ri rfl rfl rfl ?_))))))))
  · rw [hB] at zc7
    rw [if_neg (fun e => zc7 (by rw [e]; rfl))]
    exact ⟨by rw [h.2.2.2.2.2.1], rfl⟩
  · rw [hB] at zc7
    rw [if_pos (eq_n (b := 0) (Decidable.not_not.mp zc7))]
    exact ⟨rfl, rfl⟩
def m_forget (m : Mt) : Mt := (mP m, mB m, (mK m, mS m, []), mI m, mR m, mH m)
theorem x_forget (h : InvX S m) : Sp (l, wX, D, ad, cA) 0 m_SB_forget [.ref 0] S (fun v S' => v = .int (nI (mE m).length) ∧ InvX S' (m_forget m)) := by
  refine Sp.of dk_SB_forget ok_SB_forget rfl (g_ld rfl rfl rfl (g_gr rfl rfl rfl rfl rfl (g_gi rfl rfl rfl rfl rfl (g_st rfl rfl rfl rfl rfl (g_ld rfl rfl rfl (g_gr rfl rfl rfl rfl rfl (g_c rfl rfl (g_pi rfl rfl rfl rfl rfl rfl rfl (g_ld rfl rfl rfl (g_ri rfl rfl rfl ?_))))))))))
  obtain ⟨h1, h2, h3, h4, h5, h6, h7, h8, h9, h10, h11⟩ := h
  refine ⟨by rw [h4.2.2.1]; rfl, ?_⟩
  have hA : Al [18] S (z_ui S 18 5 0) := Al.rf.ui (by decide)
  refine ⟨by rw [hA _ (by decide)]; exact h1, by rw [hA _ (by decide)]; exact h2, h3.ag (fun k _ _ => hA k (by simp; omega)), ⟨?_, ?_, ?_, ?_⟩, h5.ag (hA _ (by decide)), by rw [hA _ (by decide)]; exact h6, by rw [hA _ (by decide)]; exact h7, by rw [hA _ (by decide)]; exact h8, fun k hk => ?_, by rw [hA _ (by decide)]; exact h10, by rw [hA _ (by decide)]; exact h11⟩
  · rw [hA _ (by decide)]; exact h4.1
  · rw [hA _ (by decide), hA _ (by decide)]; exact h4.2.1
  · rw [ui_at, pk_us]; rfl
  · intro i hi; exact absurd hi (Nat.not_lt_zero _)
  · have := h9 k hk
    unfold KpX at this ⊢
    rw [hA _ (by decide), hA _ (by decide), hA _ (by decide), hA _ (by decide), hA _ (by decide), hA _ (by decide)]
    exact this
def m_page (m : Mt) (p : List Nat) : Mt := (p, mB m, mN m, mI m, mR m, mH m)
theorem InvX.page {S' : zS} {p : List Nat} (h : InvX S m) (hA : Al [1, 2] S S') (h1 : S'.1 1 1 = nI p.length) (h2 : At (S'.1 2) 0 p) : InvX S' (m_page m p) := by
  obtain ⟨-, -, h3, h4, h5, h6, h7, h8, h9, h10, h11⟩ := h
  refine ⟨h1, h2, h3.ag (fun k _ _ => hA k (by simp; omega)), ?_, h5.ag (hA _ (by decide)), by rw [hA _ (by decide)]; exact h6, by rw [hA _ (by decide)]; exact h7, by rw [hA _ (by decide)]; exact h8, fun k hk => ?_, by rw [hA _ (by decide)]; exact h10, by rw [hA _ (by decide)]; exact h11⟩
  · unfold KpX at h4 ⊢
    rw [hA _ (by decide), hA _ (by decide), hA _ (by decide), hA _ (by decide), hA _ (by decide), hA _ (by decide)]
    exact h4
  · have := h9 k hk
    unfold KpX at this ⊢
    rw [hA _ (by decide), hA _ (by decide), hA _ (by decide), hA _ (by decide), hA _ (by decide), hA _ (by decide)]
    exact this
theorem x_blank (h : InvX S m) : Sp (l, wX, D, ad, cA) 1 m_SB_blank [.ref 0] S (fun v S' => v = .int (nI (mP m).length) ∧ InvX S' (m_page m [])) := by
  refine Sp.of dk_SB_blank ok_SB_blank rfl (g_ld rfl rfl rfl (g_gr rfl rfl rfl rfl rfl (g_cv rfl (s_pclear) (by omega) rfl rfl rfl rfl rfl rfl rfl rfl rfl (fun zv4 zS4 zh4 => ?_))))
  obtain ⟨rfl, rfl⟩ := zh4
  refine (g_ri rfl rfl rfl ?_)
  exact ⟨by rw [h.1], h.page (Al.rf.ui (by decide)) (by rw [ui_at, pk_us]; rfl) At.nil⟩
def v_letter (m : Mt) (x : Int32) : Int32 := if 1 ≤ x ∧ x ≤ 126 then (if (mP m).length = 90 then -104 else nI ((mP m).length + 1)) else -102
def m_letter (m : Mt) (x : Int32) : Mt := if 1 ≤ x ∧ x ≤ 126 then (if (mP m).length = 90 then m else m_page m (mP m ++ [x.toNatClampNeg])) else m
theorem x_letter (h : InvX S m) (hm : MOk m) : Sp (l, wX, D, ad, cA) 1 m_SB_letter [.ref 0, .int x] S (fun v S' => v = .int (v_letter m x) ∧ InvX S' (m_letter m x)) := by
  have h90 := hm.1
  unfold v_letter m_letter
  refine Sp.of dk_SB_letter ok_SB_letter rfl (g_ld rfl rfl rfl (g_c rfl rfl (g_if rfl rfl (fun zc2 => (g_c rfl rfl (g_ri rfl rfl rfl ?_))) (fun zc2 => (g_ld rfl rfl rfl (g_c rfl rfl (g_if rfl rfl (fun zc8 => (g_ld rfl rfl rfl (g_gr rfl rfl rfl rfl rfl (g_ld rfl rfl rfl (g_cv rfl (s_padd hm.1 h.1) (by omega) rfl rfl rfl rfl rfl rfl rfl rfl rfl (fun zv19 zS19 zh19 => ?_)))))) (fun zc8 => (g_c rfl rfl (g_ri rfl rfl rfl ?_))))))))))
  · rw [if_neg (fun q => absurd q.1 (i_ng zc2)), if_neg (fun q => absurd q.1 (i_ng zc2))]; exact ⟨rfl, h⟩
  · have hr : 1 ≤ x ∧ x ≤ 126 := ⟨i_ge zc2, zc8⟩
    rw [if_pos hr, if_pos hr]
    rcases zh19 with ⟨hn, rfl, rfl⟩ | ⟨hn, rfl, rfl⟩
    · rw [if_pos hn, if_pos hn]
      refine (g_if rfl rfl (fun zc22 => (g_c rfl rfl (g_ri rfl rfl rfl ?_))) (fun zc22 => (g_ld rfl rfl rfl (g_gr rfl rfl rfl rfl rfl (g_gi rfl rfl rfl rfl rfl (g_go rfl (g_ri rfl rfl rfl ?_)))))))
      · exact ⟨rfl, h⟩
      · exact absurd rfl zc22
    · rw [if_neg (by omega), if_neg (by omega)]
      refine (g_if rfl rfl (fun zc22 => (g_c rfl rfl (g_ri rfl rfl rfl ?_))) (fun zc22 => (g_ld rfl rfl rfl (g_gr rfl rfl rfl rfl rfl (g_gi rfl rfl rfl rfl rfl (g_go rfl (g_ri rfl rfl rfl ?_)))))))
      · exact absurd zc22 (by decide)
      · have hx : x = nI x.toNatClampNeg := by
          obtain ⟨j, hj, e1, e2⟩ := in_cl (x := x) (n := 127) (by
            have := Int32.le_iff_toInt_le.mp hr.1
            rw [Int32.le_iff_toInt_le]
            have a : (1 : Int32).toInt = 1 := by decide
            have b : (0 : Int32).toInt = 0 := by decide
            omega) (by
            have := Int32.le_iff_toInt_le.mp hr.2
            rw [Int32.lt_iff_toInt_lt]
            have a : (126 : Int32).toInt = 126 := by decide
            have b : (Int32.ofNat 127).toInt = 127 := by decide
            omega)
          rw [e2]; exact e1
        refine ⟨by rw [ui_at, pk_us], h.page ((Al.rf.ui (by decide)).ui (by decide)) (by rw [ui_at, pk_us]; simp) ?_⟩
        rw [ui_ne (by decide), ui_at]
        have := At.push (s := x.toNatClampNeg) h.2.1
        rw [Nat.zero_add, ← hx] at this
        exact this
  · rw [if_neg (fun q => zc8 q.2), if_neg (fun q => zc8 q.2)]; exact ⟨rfl, h⟩
end
