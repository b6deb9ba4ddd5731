/-! change, image, restore -/
def m_now (m : Mt) (k : Kp) : Mt := (mP m, mB m, k, mI m, mR m, mH m)
def upN (f : Nat → Nat) (k v : Nat) : Nat → Nat := fun j => if j = k then v else f j
def cntS (sl : Nat → List Nat) : Nat → Nat
  | 0 => 0
  | n + 1 => cntS sl n + (if sl n = [] then 0 else 1)
section
variable {l : Launch} {D : va_G} {ad : Nat → Nat} {cA : ClassId} {x y z : Int32} {S S' : zS} {m : Mt} {B : Bk} {kd : Nat → Nat} {r q n : Nat}
theorem kdh_0 (kd : Nat → Nat) : kdh kd 0 = kd := by funext p; unfold kdh; simp
theorem s_settle0 (hr : (r = 30 ∧ q = 33) ∨ (r = 34 ∧ q = 37)) (hB : BkX S 3 B) (hW : WfB B) (hK : KdX S kd) : Sp (l, wX, D, ad, cA) 5 m_Ways_settle [.ref r, .ref 19, .int 0] S (stPost S r B kd) := by
  have := s_settle (l := l) (D := D) (ad := ad) (cA := cA) hr hB hW hK (h := 0) (by omega)
  rw [kdh_0] at this
  exact this
theorem s_setKindE (hn : n < 12) (hx : x = nI n) : Sp (l, wX, D, ad, cA) 0 m_Hold_setKind [.ref 18, .int x, .int z] S (fun v S' => v = .null ∧ S' = z_ui S 19 n z) := by
  subst hx
  exact s_setKind hn
theorem InvX.now (h : InvX S m) {k' : Kp} (hA : ∀ k, k < 30 → ¬ (10 ≤ k ∧ k ≤ 23) → S'.1 k = S.1 k) (hrow : ∀ k, k < 4 → S'.1 41 k = nI k) (hk : KpX S' 18 k') (hw : WyR S' 30 (wy (mB m) k'.1)) (hr : S'.1 30 4 = nI (rnd (mB m) k'.1)) : InvX S' (m_now m k') := by
  obtain ⟨h1, h2, h3, h4, h5, h6, h7, h8, h9, h10, h11⟩ := h
  refine ⟨by rw [hA _ (by decide) (by decide)]; exact h1, by rw [hA _ (by decide) (by decide)]; exact h2, h3.ag (fun k _ _ => hA k (by omega) (by omega)), hk, hw, hr, hrow, by rw [hA _ (by decide) (by decide)]; exact h8, fun k hk => ?_, by rw [hA _ (by decide) (by decide)]; exact h10, by rw [hA _ (by decide) (by decide)]; exact h11⟩
  have := h9 k hk
  unfold KpX at this ⊢
  rw [hA _ (by decide) (by decide), hA _ (by decide) (by decide), hA _ (by decide) (by decide), hA _ (by decide) (by decide), hA _ (by decide) (by decide), hA _ (by decide) (by decide)]
  exact this
theorem mem_in (hm : MOk m) (h : 0 ≤ y ∧ y < gM m x) : ∃ c j, c < 4 ∧ j < bM (mB m) c ∧ x = nI c ∧ y = nI j ∧ 3 * x + y = nI (3 * c + j) ∧ 3 * c + j < 12 ∧ c < bN (mB m) := by
  have hW := hm.2.2.1
  unfold gM at h
  by_cases hx : 0 ≤ x ∧ x < 4
  · rw [if_pos hx] at h
    obtain ⟨c, hc, e1, e2⟩ := in_cl (n := 4) hx.1 hx.2
    rw [e2] at h
    have h3 := hW.2.2.2.1 c
    obtain ⟨j, hj, f1, f2⟩ := in_cl (x := y) (n := bM (mB m) c) h.1 h.2 (by omega)
    refine ⟨c, j, hc, hj, e1, f1, ?_, by omega, ?_⟩
    · rw [e1, f1, show (3 : Int32) = nI 3 from rfl, pk_mul, nI_add]
    · apply Nat.lt_of_not_le
      intro q
      have := (hW.2.2.1 c q).2
      omega
  · rw [if_neg hx] at h
    exact absurd (Int32.lt_of_le_of_lt h.1 h.2) (by decide)
def v_change (m : Mt) (x y z : Int32) : Int32 := if 0 ≤ y ∧ y < gM m x then (if 0 ≤ z ∧ z ≤ 4 then gK m x y else -102) else -101
def m_change (m : Mt) (x y z : Int32) : Mt := if 0 ≤ y ∧ y < gM m x then (if 0 ≤ z ∧ z ≤ 4 then m_now m (upN (mK m) (3 * x + y).toNatClampNeg z.toNatClampNeg, mS m, mE m) else m) else m
theorem x_change (h : InvX S m) (hm : MOk m) : Sp (l, wX, D, ad, cA) 6 m_SB_change [.ref 0, .int x, .int y, .int z] S (fun v S' => v = .int (v_change m x y z) ∧ InvX S' (m_change m x y z)) := by
  have hM := gM_eq (m := m) h.2.2.1 x
  have hK := gK_eq (m := m) h.2.2.2.1 x y
  unfold v_change m_change
  refine Sp.of dk_SB_change ok_SB_change rfl (g_ld rfl rfl rfl (g_gr rfl rfl rfl rfl rfl (g_ld rfl rfl rfl (g_ld rfl rfl rfl (g_cv rfl (s_hasMember (by decide)) (by omega) rfl rfl rfl rfl rfl rfl rfl rfl rfl (z_k1 (g_if rfl rfl (fun zc9 => (g_ld rfl rfl rfl (g_if rfl rfl (fun zc16 => (g_c rfl rfl (g_ri rfl rfl rfl ?_))) (fun zc16 => (g_ld rfl rfl rfl (g_c rfl rfl (g_if rfl rfl (fun zc21 => ?_) (fun zc21 => (g_c rfl rfl (g_ri rfl rfl rfl ?_)))))))))) (fun zc9 => (g_c rfl rfl (g_ri rfl rfl rfl ?_))))))))))
  · have a := b2_n.mp zc9
    rw [hM] at a
    have b : ¬ (0 ≤ z ∧ z ≤ 4) := fun q => absurd q.1 (i_ng zc16)
    rw [if_pos a, if_pos a, if_neg b, if_neg b]; exact ⟨rfl, h⟩
  · have a := b2_n.mp zc9
    rw [hM] at a
    have b : 0 ≤ z ∧ z ≤ 4 := ⟨i_ge zc16, zc21⟩
    rw [if_pos a, if_pos a, if_pos b, if_pos b]
    obtain ⟨c, j, hc, hj, e1, e2, hp, hp12, hcn⟩ := mem_in hm a
    obtain ⟨k, hk5, ek, ek2⟩ := in_cl (x := z) (n := 5) b.1 (by
      rw [Int32.lt_iff_toInt_lt]
      have := Int32.le_iff_toInt_le.mp b.2
      have a1 : (4 : Int32).toInt = 4 := by decide
      have a2 : (Int32.ofNat 5).toInt = 5 := by decide
      omega)
    refine (g_ld rfl rfl rfl (g_ld rfl rfl rfl (g_cs rfl (s_placeOf) (by omega) rfl rfl rfl rfl rfl rfl (z_k1 (g_st rfl rfl rfl rfl rfl (g_ld rfl rfl rfl (g_gr rfl rfl rfl rfl rfl (g_ld rfl rfl rfl (g_cv rfl (s_kindOf (by decide)) (by omega) rfl rfl rfl rfl rfl rfl rfl rfl rfl (z_k1 (g_st rfl rfl rfl rfl rfl (g_ld rfl rfl rfl (g_gr rfl rfl rfl rfl rfl (g_ld rfl rfl rfl (g_ld rfl rfl rfl (g_cv rfl (s_setKindE (n := 3 * c + j) hp12 hp) (by omega) rfl rfl rfl rfl rfl rfl rfl rfl rfl (fun zv52 zS52 zh52 => ?_)))))))))))))))))
    obtain ⟨rfl, rfl⟩ := zh52
    have hA1 : Ag [19] S (z_ui S 19 (3 * c + j) z) := Ag.rf.ui List.mem_cons_self
    have hB2 : BkX (z_ui S 19 (3 * c + j) z) 3 (mB m) := h.2.2.1.ag (fun k h3 h9 => hA1.1 k (by simp; omega))
    have hK2 : KdX (z_ui S 19 (3 * c + j) z) (upN (mK m) (3 * c + j) k) := by
      refine ⟨fun p => ?_, fun p hp => ?_⟩
      · unfold upN; split
        · omega
        · exact hm.2.2.2.1.1 p
      · rw [ui_at]
        unfold upN
        by_cases e : p = 3 * c + j
        · rw [if_pos e, e, pk_us]; exact ek
        · rw [if_neg e, pk_un e]; exact h.2.2.2.1.1 p hp
    refine (g_ld rfl rfl rfl (g_gr rfl rfl rfl rfl rfl (g_ld rfl rfl rfl (g_gr rfl rfl rfl rfl rfl (g_gr rfl rfl rfl rfl rfl (g_c rfl rfl (g_cv rfl (s_settle0 (Or.inl ⟨rfl, rfl⟩) hB2 hm.2.2.1 hK2) (by omega) rfl rfl rfl rfl rfl rfl rfl rfl rfl (fun zv67 zS67 zh67 => ?_))))))))
    obtain ⟨rfl, hW3, hr3, hA3⟩ := zh67
    refine (g_ld rfl rfl rfl (g_ri rfl rfl rfl ?_))
    refine ⟨by rw [hK], ?_⟩
    rw [hp, nI_clamp (by omega), ek2]
    have kA : ∀ k, k ≠ 19 → ¬ (30 ≤ k ∧ k ≤ 33) → zS67.1 k = S.1 k := fun k g1 g2 => by rw [hA3.1 k (by simp; omega), hA1.1 k (by simp [g1])]
    refine h.now (fun k hk hk2 => kA k (by omega) (by omega)) (fun k hk => by rw [kA 41 (by decide) (by decide)]; exact h.2.2.2.2.2.2.1 k hk) ⟨?_, ?_, ?_, ?_⟩ hW3 hr3
    · intro p hp
      rw [hA3.1 _ (by decide)]
      exact hK2.2 p hp
    · rw [kA _ (by decide) (by decide), kA _ (by decide) (by decide)]
      exact h.2.2.2.1.2.1
    · rw [kA _ (by decide) (by decide)]
      exact h.2.2.2.1.2.2.1
    · rw [kA _ (by decide) (by decide), kA _ (by decide) (by decide)]
      exact h.2.2.2.1.2.2.2
  · have a := b2_n.mp zc9
    rw [hM] at a
    have b : ¬ (0 ≤ z ∧ z ≤ 4) := fun q => zc21 q.2
    rw [if_pos a, if_pos a, if_neg b, if_neg b]; exact ⟨rfl, h⟩
  · have a := b2_0.mp (Decidable.not_not.mp zc9)
    rw [hM] at a
    rw [if_neg a, if_neg a]; exact ⟨rfl, h⟩
theorem cnt_eq {sl : Nat → List Nat} (h : ∀ s, s < 8 → S.1 20 s = nI (sl s).length ∧ (sl s).length ≤ 15) : ∀ n, n ≤ 8 → sumF (f_fs S) n = nI (cntS sl n)
  | 0, _ => rfl
  | n + 1, hn => by
    obtain ⟨h1, h2⟩ := h n (by omega)
    rw [sumF, cnt_eq h n (by omega), f_fs, h1, cntS]
    by_cases e : sl n = []
    · rw [if_pos e, e, if_pos (by decide), Int32.add_zero]; rfl
    · have hl : 0 < (sl n).length := List.length_pos_iff.mpr e
      rw [if_neg e, if_neg (nI_nle hl (by omega)), nI_succ]
theorem KpX.cp {r o : Nat} {k : Kp} {S S' : zS} (h : KpX S o k) (h15 : ∀ s, s < 8 → (k.2.1 s).length ≤ 15) (h6 : k.2.2.length ≤ 6) (a1 : ∀ i, i < 12 → S'.1 (r + 1) i = S.1 (o + 1) i) (a2 : ∀ i, i < 8 → S'.1 (r + 2) i = S.1 (o + 2) i) (a3 : ∀ i, i < 120 → S'.1 (r + 3) i = S.1 (o + 3) i) (a4 : ∀ i, i < 6 → S'.1 (r + 4) i = S.1 (o + 4) i) (a5 : ∀ i, i < 6 → S'.1 (r + 5) i = S.1 (o + 5) i) (a6 : S'.1 r 5 = S.1 o 5) : KpX S' r k := by
  obtain ⟨g1, g2, g3, g4⟩ := h
  refine ⟨fun p hp => by rw [a1 p hp]; exact g1 p hp, fun s hs => ⟨by rw [a2 s hs]; exact (g2 s hs).1, (g2 s hs).2.congr (fun i hi => a3 _ (by have := h15 s hs; omega))⟩, by rw [a6]; exact g3, fun i hi => ?_⟩
  rw [a4 i (by omega), a5 i (by omega)]
  exact g4 i hi
theorem KpOk.len {k : Kp} (h : KpOk B k) {s : Nat} (hs : s < 8) : (k.2.1 s).length ≤ 15 := by
  rcases h.2.1 s hs with e | e
  · rw [e]; simp
  · exact e.2
def v_image (m : Mt) : Int32 := if bN (mB m) = 0 then -103 else nI (cntS (mS m) 8)
def m_image (m : Mt) : Mt := if bN (mB m) = 0 then m else (mP m, mB m, mN m, some (mN m), mR m, mH m)
theorem x_image (h : InvX S m) (hm : MOk m) : Sp (l, wX, D, ad, cA) 1 m_SB_image [.ref 0] S (fun v S' => v = .int (v_image m) ∧ InvX S' (m_image m)) := by
  have hB := h.2.2.1.1
  have h4 := hm.2.2.1.1
  unfold v_image m_image
  refine Sp.of dk_SB_image ok_SB_image rfl (g_ld rfl rfl rfl (g_gr rfl rfl rfl rfl rfl (g_gi rfl rfl rfl rfl rfl (g_if rfl rfl (fun zc7 => (g_ld rfl rfl rfl (g_gr rfl rfl rfl rfl rfl (g_ld rfl rfl rfl (g_gr rfl rfl rfl rfl rfl (g_cv rfl (s_hcopy (Or.inr ⟨rfl, rfl⟩)) (by omega) rfl rfl rfl rfl rfl rfl rfl rfl rfl (fun zv21 zS21 zh21 => ?_))))))) (fun zc7 => (g_c rfl rfl (g_ri rfl rfl rfl ?_)))))))
  · rw [hB] at zc7
    have hn : ¬ bN (mB m) = 0 := fun e => zc7 (by rw [e]; rfl)
    rw [if_neg hn, if_neg hn]
    obtain ⟨rfl, hA, a1, a2, a3, a4, a5, a6⟩ := zh21
    refine (g_ld rfl rfl rfl (g_c rfl rfl (g_pi rfl rfl rfl rfl rfl rfl rfl (g_ld rfl rfl rfl (g_gr rfl rfl rfl rfl rfl (g_cv rfl (s_filledSlots) (by omega) rfl rfl rfl rfl rfl rfl rfl rfl rfl (z_k1 (g_ri rfl rfl rfl ?_))))))))
    have kA : ∀ k, ¬ (24 ≤ k ∧ k ≤ 29) → k ≠ 0 → (z_ui zS21 0 11 1).1 k = S.1 k := fun k g1 g2 => by rw [ui_ne g2, hA.1 k (by simp; omega)]
    have k0 : ∀ j, j ≠ 11 → (z_ui zS21 0 11 1).1 0 j = S.1 0 j := fun j hj => by rw [ui_at, pk_un hj, hA.1 _ (by decide)]
    refine ⟨?_, ?_⟩
    · rw [cnt_eq (S := z_ui zS21 0 11 1) (sl := mS m) (fun s hs => ⟨by rw [kA 20 (by decide) (by decide)]; exact (h.2.2.2.1.2.1 s hs).1, (h.sl hm s hs).2.1⟩) 8 (by omega)]
    · obtain ⟨h1, h2, h3, h4', h5, h6, h7, h8, h9, h10, h11⟩ := h
      refine ⟨by rw [kA _ (by decide) (by decide)]; exact h1, by rw [kA _ (by decide) (by decide)]; exact h2, h3.ag (fun k _ _ => kA k (by omega) (by omega)), ?_, h5.ag (kA _ (by decide) (by decide)), by rw [kA _ (by decide) (by decide)]; exact h6, by rw [kA _ (by decide) (by decide)]; exact h7, by rw [ui_at, pk_us]; rfl, fun k hk => ?_, by rw [k0 _ (by decide)]; exact h10, by rw [k0 _ (by decide)]; exact h11⟩
      · unfold KpX at h4' ⊢
        rw [kA _ (by decide) (by decide), kA _ (by decide) (by decide), kA _ (by decide) (by decide), kA _ (by decide) (by decide), kA _ (by decide) (by decide), kA _ (by decide) (by decide)]
        exact h4'
      · cases hk
        have := KpX.cp (r := 24) (S' := zS21) h4' (fun s hs => KpOk.len hm.2.2.2.1 hs) hm.2.2.2.1.2.2.1 a1 a2 a3 a4 a5 a6
        unfold KpX at this ⊢
        rw [ui_ne (by decide), ui_ne (by decide), ui_ne (by decide), ui_ne (by decide), ui_ne (by decide), ui_ne (by decide)]
        exact this
  · rw [hB] at zc7
    have hn := eq_n (b := 0) (Decidable.not_not.mp zc7)
    rw [if_pos hn, if_pos hn]; exact ⟨rfl, h⟩
end
