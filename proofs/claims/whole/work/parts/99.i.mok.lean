/-! what each call leaves in form -/
section
variable {x y z w : Int32} {m : Mt} {B : Bk} {n p k r c j s : Nat} {t : List Nat}
theorem ok_page (hm : MOk m) (h1 : t.length ≤ 90) (h2 : ∀ c ∈ t, 1 ≤ c ∧ c ≤ 126) : MOk (m_page m t) := ⟨h1, h2, hm.2.2⟩
theorem ok_letter (hm : MOk m) : MOk (m_letter m x) := by
  unfold m_letter
  by_cases h : 1 ≤ x ∧ x ≤ 126
  · rw [if_pos h]
    by_cases h9 : (mP m).length = 90
    · rw [if_pos h9]; exact hm
    · rw [if_neg h9]
      have h90 := hm.1
      refine ok_page hm (by rw [List.length_append]; simp; omega) (fun c hc => ?_)
      rcases List.mem_append.mp hc with g | g
      · exact hm.2.1 c g
      · rw [List.mem_singleton.mp g]
        have e := i_in127 h.1 h.2
        have q1 := Int32.le_iff_toInt_le.mp h.1
        have q2 := Int32.le_iff_toInt_le.mp h.2
        have e1 : (1 : Int32).toInt = 1 := by decide
        have e2 : (126 : Int32).toInt = 126 := by decide
        have e3 : x.toNatClampNeg = x.toInt.toNat := rfl
        omega
  · rw [if_neg h]; exact hm
theorem ok_blank (hm : MOk m) : MOk (m_page m []) := ok_page hm (by simp) (fun c hc => absurd hc (by simp))
theorem ok_now (hm : MOk m) {k : Kp} (h : KpOk (mB m) k) : MOk (m_now m k) := ⟨hm.1, hm.2.1, hm.2.2.1, h, hm.2.2.2.2.1, hm.2.2.2.2.2⟩
theorem ok_slot (hm : MOk m) (ht : CT (mB m) t) (hl : t.length ≤ 15) : MOk (m_slot m s t) := by
  obtain ⟨k1, k2, k3, k4⟩ := hm.2.2.2.1
  refine ok_now hm ⟨k1, fun q hq => ?_, k3, k4⟩
  show (if q = s then t else mS m q) = [] ∨ (CT (mB m) (if q = s then t else mS m q) ∧ (if q = s then t else mS m q).length ≤ 15)
  by_cases e : q = s
  · rw [if_pos e]; exact Or.inr ⟨ht, hl⟩
  · rw [if_neg e]; exact k2 q hq
theorem ok_type (hm : MOk m) : MOk (m_type m x) := by
  unfold m_type
  by_cases h : 0 ≤ x ∧ x < 8
  · rw [if_pos h]
    by_cases hc : clT (mB m) (mP m) 1 = true
    · rw [if_pos hc]
      by_cases hl : (mP m).length ≤ 15
      · rw [if_pos hl]
        exact ok_blank (ok_slot hm (clT_ct hc) (by unfold pgT; rw [List.length_map]; exact hl))
      · rw [if_neg hl]; exact hm
    · rw [if_neg hc]; exact hm
  · rw [if_neg h]; exact hm
theorem ok_change (hm : MOk m) : MOk (m_change m x y z) := by
  unfold m_change
  by_cases h : 0 ≤ y ∧ y < gM m x
  · rw [if_pos h]
    by_cases hz : 0 ≤ z ∧ z ≤ 4
    · rw [if_pos hz]
      obtain ⟨k1, k2, k3, k4⟩ := hm.2.2.2.1
      obtain ⟨k, hk5, ek, ek2⟩ := in_cl (x := z) (n := 5) hz.1 (in04.mp hz).2
      refine ok_now hm ⟨fun p => ?_, k2, k3, k4⟩
      show upN (mK m) _ z.toNatClampNeg p < 5
      unfold upN
      split
      · omega
      · exact k1 p
    · rw [if_neg hz]; exact hm
  · rw [if_neg h]; exact hm
theorem rd_ct (hm : MOk m) (h : 0 < gZ m x) (hy : 0 ≤ y ∧ y < gM m (gC m x)) : CT (mB m) (rdTy m x y) := by
  have hW := hm.2.2.1
  obtain ⟨s, hs, e1, e2, hc, h15, e3⟩ := gZ_pos hm h
  obtain ⟨c, r, ht, hah, hcn⟩ := hc.ne
  have eC : gC m x = nI c := by unfold gC; rw [e2, hah]
  obtain ⟨c', j, hc', hj, f1, f2, hp, hp12, hcn'⟩ := mem_in hm hy
  have h4 := hW.1
  have ec : c = c' := eq_n (eC.symm.trans f1)
  subst ec
  have hj3 : j < 3 := by have := hW.2.2.2.1 c; omega
  have hty := (hW.2.2.2.2.1 c j (by omega) hj3).1 hj
  unfold rdTy
  rw [hp, nI_clamp (by omega), e2]
  exact mTy_ct hW hc (by rw [hah]; exact hty)
theorem ok_read (hm : MOk m) : MOk (m_read m x y z) := by
  unfold m_read
  by_cases h : rdOk m x y z
  · rw [if_pos h]
    by_cases hk : f_kw (gK m (gC m x) y) &&& 1 = 0
    · rw [if_pos hk]; exact hm
    · rw [if_neg hk]
      by_cases hl : (rdTy m x y).length ≤ 15
      · rw [if_pos hl]; exact ok_slot hm (rd_ct hm h.1 h.2.1) hl
      · rw [if_neg hl]; exact hm
  · rw [if_neg h]; exact hm
theorem ok_lift (hm : MOk m) : MOk (m_lift m x z) := by
  unfold m_lift
  by_cases h : lfOk m x z
  · rw [if_pos h]
    by_cases hk : lfB m x = []
    · rw [if_pos hk]; exact hm
    · rw [if_neg hk]
      by_cases hl : (lfTy m x).length ≤ 15
      · rw [if_pos hl]
        have hW := hm.2.2.1
        have h4 := hW.1
        obtain ⟨s, hs, e1, e2, hc, h15, e3⟩ := gZ_pos hm h.1
        obtain ⟨c, r, ht, hah, hcn⟩ := hc.ne
        have hlB : lfB m x = bT (mB m) (12 + c) := by unfold lfB; rw [e2, hah]
        have hlT : lfTy m x = mTy m (12 + c) s := by unfold lfTy; rw [e2, hah]
        rw [hlB] at hk
        have hty : TyOk (mB m) c (bT (mB m) (12 + c)) := by
          rcases hW.2.2.2.2.2 c (by omega) with g | g
          · exact absurd g hk
          · exact g.2.1
        refine ok_slot hm ?_ hl
        rw [hlT]
        exact mTy_ct hW hc (by rw [hah]; exact hty)
      · rw [if_neg hl]; exact hm
  · rw [if_neg h]; exact hm
theorem ok_hide (hm : MOk m) : MOk (m_hide m x y z w) := by
  unfold m_hide
  by_cases h : 0 ≤ y ∧ y < gP m x
  · rw [if_pos h]
    by_cases hk : hdOk z w
    · rw [if_pos hk]
      by_cases hl : mH m < 12
      · rw [if_pos hl]; exact did_ok hm hl
      · rw [if_neg hl]; exact hm
    · rw [if_neg hk]; exact hm
  · rw [if_neg h]; exact hm
theorem ok_forget (hm : MOk m) : MOk (m_forget m) := by
  obtain ⟨k1, k2, k3, k4⟩ := hm.2.2.2.1
  exact ok_now hm (k := (mK m, mS m, [])) ⟨k1, k2, by show ([] : List (Nat × Nat)).length ≤ 6; simp, fun q hq => absurd hq (by simp)⟩
theorem ok_see (hm : MOk m) (hw : w = 0 ∨ w = 1) : MOk (m_see m x y z w) := by
  unfold m_see
  by_cases h : 0 ≤ y ∧ y < gM m x
  · rw [if_pos h]
    by_cases hz : 0 ≤ z ∧ z ≤ 2
    · rw [if_pos hz]
      by_cases hl : (mE m).length = 6
      · rw [if_pos hl]; exact hm
      · rw [if_neg hl]
        obtain ⟨k1, k2, k3, k4⟩ := hm.2.2.2.1
        have k3 : (mE m).length ≤ 6 := k3
        obtain ⟨c, j, hc, hj, e1, e2, hp, hp12, hcn⟩ := mem_in hm h
        obtain ⟨zz, hzz, ez, ez2⟩ := in_cl (n := 3) (in02.mp hz).1 (in02.mp hz).2
        refine ok_now hm ⟨k1, k2, ?_, fun q hq => ?_⟩
        · show (mE m ++ [_]).length ≤ 6
          rw [List.length_append]
          simp
          omega
        · have hq : q ∈ mE m ++ [((3 * x + y).toNatClampNeg, (mskI z.toNatClampNeg w).toNatClampNeg)] := hq
          rcases List.mem_append.mp hq with g | g
          · exact k4 q g
          · rw [List.mem_singleton.mp g]
            refine ⟨?_, ?_⟩
            · show (3 * x + y).toNatClampNeg < 12
              rw [hp, nI_clamp (by omega)]
              exact hp12
            · show (mskI z.toNatClampNeg w).toNatClampNeg < 32
              rw [ez2]
              rcases hw with e | e
              · rw [e]; exact (msk_eq zz hzz 0 (by omega)).2.1
              · rw [e]; exact (msk_eq zz hzz 1 (by omega)).2.1
    · rw [if_neg hz]; exact hm
  · rw [if_neg h]; exact hm
theorem ok_image (hm : MOk m) : MOk (m_image m) := by
  unfold m_image
  by_cases h : bN (mB m) = 0
  · rw [if_pos h]; exact hm
  · rw [if_neg h]
    exact ⟨hm.1, hm.2.1, hm.2.2.1, hm.2.2.2.1, fun k hk => by cases hk; exact ⟨hm.2.2.2.1, by show 0 < bN (mB m); omega⟩, hm.2.2.2.2.2⟩
theorem ok_restore (hm : MOk m) : MOk (m_restore m) := by
  unfold m_restore
  cases hI : mI m with
  | none => exact hm
  | some k => exact ok_now hm (hm.2.2.2.2.1 k hI).1
theorem ok_book (hm : MOk m) (hr : mR m < 4096) : MOk (m_book m) := by
  unfold m_book
  cases h : rdB (mP m) with
  | none => exact hm
  | some q =>
    obtain ⟨-, hQ, hW, -, -⟩ := rdB_ok h
    exact ⟨by show ([] : List Nat).length ≤ 90; simp, fun c hc => absurd (show c ∈ ([] : List Nat) from hc) (by simp), hW, ⟨hQ.2.2.2.2.2.2.2.2.1, fun s hs => Or.inl rfl, by show ([] : List (Nat × Nat)).length ≤ 6; simp, fun q hq => absurd (show q ∈ ([] : List (Nat × Nat)) from hq) (by simp)⟩, fun k hk => absurd (show none = some k from hk) (by simp), by show mR m + 1 ≤ 4096; omega, hm.2.2.2.2.2.2⟩
/-! books read -/
theorem r_letter : mR (m_letter m x) = mR m := by unfold m_letter; split; split; rfl; rfl; rfl
theorem r_type : mR (m_type m x) = mR m := by unfold m_type; split; split; split; rfl; rfl; rfl; rfl
theorem r_change : mR (m_change m x y z) = mR m := by unfold m_change; split; split; rfl; rfl; rfl
theorem r_read : mR (m_read m x y z) = mR m := by unfold m_read; split; split; rfl; split; rfl; rfl; rfl
theorem r_lift : mR (m_lift m x z) = mR m := by unfold m_lift; split; split; rfl; split; rfl; rfl; rfl
theorem r_hide : mR (m_hide m x y z w) = mR m := by unfold m_hide; split; split; split; rfl; rfl; rfl; rfl
theorem r_see : mR (m_see m x y z w) = mR m := by unfold m_see; split; split; split; rfl; rfl; rfl; rfl
theorem r_image : mR (m_image m) = mR m := by unfold m_image; split; rfl; rfl
theorem r_restore : mR (m_restore m) = mR m := by unfold m_restore; split; rfl; rfl
theorem r_book : mR (m_book m) ≤ mR m + 1 := by
  unfold m_book
  cases rdB (mP m) with
  | none => exact Nat.le_succ _
  | some q => exact Nat.le_refl _
end
/-! the beginning -/
def m0 : Mt := ([], bk0, (fun _ => 0, fun _ => [], []), none, 0, 0)
theorem ok_0 : MOk m0 := ⟨by decide, fun c hc => absurd (show c ∈ ([] : List Nat) from hc) (by simp), ⟨by decide, fun _ => Nat.zero_le _, fun _ _ => ⟨rfl, rfl⟩, fun _ => Nat.zero_le _, fun c m _ _ => ⟨fun h => absurd h (Nat.not_lt_zero _), fun _ => rfl⟩, fun c _ => Or.inl rfl⟩, ⟨fun _ => (show (0 : Nat) < 5 by decide), fun s _ => Or.inl rfl, by show ([] : List (Nat × Nat)).length ≤ 6; simp, fun q hq => absurd (show q ∈ ([] : List (Nat × Nat)) from hq) (by simp)⟩, fun k hk => absurd (show none = some k from hk) (by simp), Nat.zero_le _, Nat.zero_le _⟩
