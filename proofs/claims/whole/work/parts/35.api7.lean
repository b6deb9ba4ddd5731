/-! member -/
def ushi (x k : Int32) : Int32 := (x.toUInt32 >>> (Int32.toUInt32 k &&& Int32.toUInt32 31)).toInt32
def bc1 (x : Int32) : Int32 := x - (ushi x 1 &&& 1431655765)
def bc2 (x : Int32) : Int32 := (x &&& 858993459) + (ushi x 2 &&& 858993459)
def bc3 (x : Int32) : Int32 := (x + ushi x 4) &&& 252645135
def bc4 (x : Int32) : Int32 := x + ushi x 8
def bc5 (x : Int32) : Int32 := x + ushi x 16
def f_bc (x : Int32) : Int32 := bc5 (bc4 (bc3 (bc2 (bc1 x)))) &&& 63
def f_bta (x : Int32) : Nat → Nat → Int32 → Int32 → Int32
  | 0, _, b, _ => b
  | k + 1, i, b, f => if x = 0 then b else if (if f_bc (x &&& kcT i) < f_bc x - f_bc (x &&& kcT i) then f_bc x - f_bc (x &&& kcT i) else f_bc (x &&& kcT i)) < f then f_bta x k (i + 1) (nI i) (if f_bc (x &&& kcT i) < f_bc x - f_bc (x &&& kcT i) then f_bc x - f_bc (x &&& kcT i) else f_bc (x &&& kcT i)) else f_bta x k (i + 1) b f
section
variable {l : Launch} {D : va_G} {ad : Nat → Nat} {cA : ClassId} {x y z w : Int32} {S S' : zS} {m : Mt} {B : Bk} {kd : Nat → Nat} {r q n : Nat}
theorem s_bitCount : Sp (l, wX, D, ad, cA) 0 m_JI_bitCount [.int x] S (fun v S' => v = .int (f_bc x) ∧ S' = S) := by
  refine Sp.of dk_JI_bitCount ok_JI_bitCount rfl (g_ld rfl rfl rfl (g_ld rfl rfl rfl (g_c rfl rfl (g_bin rfl rfl (g_c rfl rfl (g_bin rfl rfl (g_bin rfl rfl (g_st rfl rfl rfl rfl rfl (g_ld rfl rfl rfl (g_c rfl rfl (g_bin rfl rfl (g_ld rfl rfl rfl (g_c rfl rfl (g_bin rfl rfl (g_c rfl rfl (g_bin rfl rfl (g_bin rfl rfl (g_st rfl rfl rfl rfl rfl (g_ld rfl rfl rfl (g_ld rfl rfl rfl (g_c rfl rfl (g_bin rfl rfl (g_bin rfl rfl (g_c rfl rfl (g_bin rfl rfl (g_st rfl rfl rfl rfl rfl (g_ld rfl rfl rfl (g_ld rfl rfl rfl (g_c rfl rfl (g_bin rfl rfl (g_bin rfl rfl (g_st rfl rfl rfl rfl rfl (g_ld rfl rfl rfl (g_ld rfl rfl rfl (g_c rfl rfl (g_bin rfl rfl (g_bin rfl rfl (g_st rfl rfl rfl rfl rfl (g_ld rfl rfl rfl (g_c rfl rfl (g_bin rfl rfl (g_ri rfl rfl rfl ?_))))))))))))))))))))))))))))))))))))))))))
  refine ⟨congrArg Value.int ?_, rfl⟩
  rfl
theorem lp_bta : ∀ (k i : Nat) (b f : Int32) (l4 l5 : Option Value), i + k = 3 → Go (l, wX, D, ad, cA) 1 m_SB_bestToAsk (fun v S' => v = .int (f_bta x k i b f) ∧ S' = S) 11 [some (.int x), some (.int b), some (.int f), some (.int (nI i)), l4, l5] [] S
  | 0, i, b, f, l4, l5, h => by
    have e : i = 3 := by omega
    subst e
    refine (g_ld rfl rfl rfl (g_c rfl rfl (g_if rfl rfl (fun zc13 => (g_ld rfl rfl rfl (g_ri rfl rfl rfl ?_))) (fun zc13 => ?_))))
    · exact ⟨rfl, rfl⟩
    · exact absurd (by decide) zc13
  | k + 1, i, b, f, l4, l5, h => by
    have hng : ¬ nI i > 2 := by
      have h3 : i = 0 ∨ i = 1 ∨ i = 2 := by omega
      rcases h3 with e | e | e <;> rw [e] <;> decide
    unfold f_bta
    refine (g_ld rfl rfl rfl (g_c rfl rfl (g_if rfl rfl (fun zc13 => (g_ld rfl rfl rfl (g_ri rfl rfl rfl ?_))) (fun zc13 => (g_ld rfl rfl rfl (g_if rfl rfl (fun zc17 => (g_ld rfl rfl rfl (g_ri rfl rfl rfl ?_))) (fun zc17 => (g_ld rfl rfl rfl (g_gs rfl rfl rfl (g_ld rfl rfl rfl (g_tld rfl rfl ?_ (g_bin rfl rfl (g_cs rfl (s_bitCount) (by omega) rfl rfl rfl rfl rfl rfl (z_k1 (g_st rfl rfl rfl rfl rfl (g_ld rfl rfl rfl (g_ld rfl rfl rfl (g_cs rfl (s_bitCount) (by omega) rfl rfl rfl rfl rfl rfl (z_k1 (g_ld rfl rfl rfl (g_bin rfl rfl (g_max rfl rfl (g_st rfl rfl rfl rfl rfl (g_ld rfl rfl rfl (g_ld rfl rfl rfl (g_if rfl rfl (fun zc49 => (g_inc rfl rfl rfl rfl (g_go rfl ?_))) (fun zc49 => (g_ld rfl rfl rfl (g_st rfl rfl rfl rfl rfl (g_ld rfl rfl rfl (g_st rfl rfl rfl rfl rfl (g_inc rfl rfl rfl rfl (g_go rfl ?_)))))))))))))))))))))))))))))))))
    · exact absurd zc13 hng
    · rw [if_pos zc17]; exact ⟨rfl, rfl⟩
    · have h3 : i < 3 := by omega
      exact vp_in_nI h3 (by decide)
    · rw [nI_clamp (by omega)] at zc49
      rw [if_neg zc17, if_neg (i_nl zc49)]
      have := lp_bta k (i + 1) b f (some (.int (f_bc (x &&& kcT (nI i).toNatClampNeg)))) (some (.int (if f_bc (x &&& kcT (nI i).toNatClampNeg) < f_bc x - f_bc (x &&& kcT (nI i).toNatClampNeg) then f_bc x - f_bc (x &&& kcT (nI i).toNatClampNeg) else f_bc (x &&& kcT (nI i).toNatClampNeg)))) (by omega)
      rw [nI_succ] at this
      exact this
    · rw [nI_clamp (by omega)] at zc49 ⊢
      rw [if_neg zc17, if_pos (i_gt zc49)]
      have := lp_bta k (i + 1) (nI i) (if f_bc (x &&& kcT i) < f_bc x - f_bc (x &&& kcT i) then f_bc x - f_bc (x &&& kcT i) else f_bc (x &&& kcT i)) (some (.int (f_bc (x &&& kcT i)))) (some (.int (if f_bc (x &&& kcT i) < f_bc x - f_bc (x &&& kcT i) then f_bc x - f_bc (x &&& kcT i) else f_bc (x &&& kcT i)))) (by omega)
      rw [nI_succ] at this
      exact this
theorem s_bestToAsk : Sp (l, wX, D, ad, cA) 1 m_SB_bestToAsk [.int x] S (fun v S' => v = .int (f_bta x 3 0 (-1) (f_bc x + 1)) ∧ S' = S) := by
  refine Sp.of dk_SB_bestToAsk ok_SB_bestToAsk rfl (g_c rfl rfl (g_st rfl rfl rfl rfl rfl (g_ld rfl rfl rfl (g_cs rfl (s_bitCount) (by omega) rfl rfl rfl rfl rfl rfl (z_k1 (g_c rfl rfl (g_bin rfl rfl (g_st rfl rfl rfl rfl rfl (g_c rfl rfl (g_st rfl rfl rfl rfl rfl ?_))))))))))
  exact lp_bta 3 0 _ _ _ _ rfl
theorem sh_3 : ∀ p, p < 2 → ∀ a, a < 4 → ∀ b, b < 4 → (nI (a + 4 * b) >>> ((2 * nI p) &&& 31)) &&& 3 = nI (if p = 0 then a else b) := by decide +kernel
noncomputable def mTl (m : Mt) (pl : Nat) : Nat × Nat := tl (bP (mB m)) (wy (mB m) (mK m)) (bT (mB m) pl) [kwn (mK m pl)]
noncomputable def adI (m : Mt) (c pl p : Nat) : Int32 := if p < bP (mB m) c then nI (if p = 0 then (mTl m pl).1 else (mTl m pl).2) else -1
theorem s_added (h : InvX S m) (hm : MOk m) {c pl p : Nat} (hc : c < 4) (hpl : pl < 12) (hp : p < 2) {xc xp : Int32} (ex : xc = nI c) (ep : xp = nI pl) (hz : z = nI p) : Sp (l, wX, D, ad, cA) 3 m_SB_addedOrNone [.ref 0, .int xc, .int xp, .int z] S (fun v S' => v = .int (adI m c pl p) ∧ InvX S' m) := by
  subst ex
  subst ep
  subst hz
  have hpl16 : pl < 16 := by omega
  have hP2 := hm.2.2.1.2.1 c
  have hpar : f_par S 3 (nI c) = nI (bP (mB m) c) := bk_par h.2.2.1 hm.2.2.1 (by omega)
  have hkd : f_kind S 18 (nI pl) = nI (mK m pl) := by
    unfold f_kind
    have hin : (0 : Int32) ≤ nI pl ∧ nI pl < 12 := in_n (n := 12) hpl (by omega)
    rw [if_pos hin, nI_clamp (by omega)]
    exact h.2.2.2.1.1 pl hpl
  have hkw : f_kw (f_kind S 18 (nI pl)) = nI (kwn (mK m pl)) := by
    rw [hkd]; exact kw_eq _ (hm.2.2.2.1.1 pl)
  unfold adI
  refine Sp.of dk_SB_addedOrNone ok_SB_addedOrNone rfl (g_ld rfl rfl rfl (g_gr rfl rfl rfl rfl rfl (g_ld rfl rfl rfl (g_ld rfl rfl rfl (g_cv rfl (s_hasParameter (by decide)) (by omega) rfl rfl rfl rfl rfl rfl rfl rfl rfl (z_k1 (g_if rfl rfl (fun zc9 => (g_ld rfl rfl rfl (g_gr rfl rfl rfl rfl rfl (g_ld rfl rfl rfl (g_ld rfl rfl rfl (g_gr rfl rfl rfl rfl rfl (g_ld rfl rfl rfl (g_cv rfl (s_kindOf (by decide)) (by omega) rfl rfl rfl rfl rfl rfl rfl rfl rfl (z_k1 (g_cs rfl (s_kindWays) (by omega) rfl rfl rfl rfl rfl rfl (z_k1 (g_cv rfl (s_toldByE (Or.inl ⟨rfl, rfl⟩) h.2.2.1 hm.2.2.1 h.2.2.2.2.1 (p := pl) hpl16 (kwn_lt _) rfl hkw) (by omega) rfl rfl rfl rfl rfl rfl rfl rfl rfl (fun zv30 zS30 zh30 => ?_))))))))))))) (fun zc9 => (g_c rfl rfl (g_ri rfl rfl rfl ?_))))))))))
  · obtain ⟨rfl, hA⟩ := zh30
    have a := b2_n.mp zc9
    rw [hpar] at a
    have hlt : p < bP (mB m) c := lt_n a.2
    rw [if_pos hlt]
    refine (g_st rfl rfl rfl rfl rfl (g_ld rfl rfl rfl (g_c rfl rfl (g_ld rfl rfl rfl (g_bin rfl rfl (g_bin rfl rfl (g_c rfl rfl (g_bin rfl rfl (g_ri rfl rfl rfl ?_)))))))))
    have ht := tl_lt (P := bP (mB m)) h.2.2.2.2.1.1 (bT (mB m) pl) [kwn (mK m pl)] (by simpa using kwn_lt _)
    exact ⟨congrArg Value.int (sh_3 p hp _ ht.1 _ ht.2), h.scr (fun k hk _ => hA.1 k (by simp; omega)) (fun k hk => by rw [hA.1 41 (by decide)]; exact h.2.2.2.2.2.2.1 k hk)⟩
  · have a := b2_0.mp (Decidable.not_not.mp zc9)
    rw [hpar] at a
    rw [if_neg (fun q => a (in_n q (by omega)))]
    exact ⟨rfl, h⟩
theorem and_32 : ∀ a, a < 32 → ∀ b, b < 32 → nI a &&& nI b = nI (a &&& b) ∧ a &&& b < 32 := by decide +kernel
def srt (E : List (Nat × Nat)) (p : Nat) : Nat → Nat
  | 0 => 31
  | i + 1 => if (E.getD i (0, 0)).1 = p then srt E p i &&& (E.getD i (0, 0)).2 else srt E p i
theorem srt_eq (h : InvX S m) (hm : MOk m) {p : Nat} (hp : p < 12) : ∀ i, i ≤ (mE m).length → f_sor S (nI p) i = nI (srt (mE m) p i) ∧ srt (mE m) p i < 32
  | 0, _ => ⟨rfl, by rw [srt]; omega⟩
  | i + 1, hi => by
    obtain ⟨a, b⟩ := srt_eq h hm hp i (by omega)
    obtain ⟨e1, e2⟩ := h.2.2.2.1.2.2.2 i hi
    have hmem : (mE m).getD i (0, 0) ∈ mE m := by
      rw [List.getD_eq_getElem?_getD, List.getElem?_eq_getElem hi]
      exact List.getElem_mem hi
    obtain ⟨k1, k2⟩ := hm.2.2.2.1.2.2.2 _ hmem
    have f1 : S.1 22 i = nI ((mE m).getD i (0, 0)).1 := e1
    have f2 : S.1 23 i = nI ((mE m).getD i (0, 0)).2 := e2
    rw [f_sor, srt, f1, f2, a]
    by_cases e : ((mE m).getD i (0, 0)).1 = p
    · rw [if_pos (by rw [e]), if_pos e]
      exact and_32 _ b _ k2
    · rw [if_neg (fun q => e (eq_n q)), if_neg e]
      exact ⟨rfl, b⟩
def mSo (m : Mt) (p : Nat) : Nat := srt (mE m) p (mE m).length
noncomputable def v_member (m : Mt) (x y z : Int32) : Int32 := if 0 ≤ y ∧ y < gM m x then (if z = 0 then gK m x y else if z = 1 then adI m x.toNatClampNeg (3 * x + y).toNatClampNeg 0 else if z = 2 then adI m x.toNatClampNeg (3 * x + y).toNatClampNeg 1 else if z = 3 then nI (bT (mB m) (3 * x + y).toNatClampNeg).length else if z = 4 then nI (mSo m (3 * x + y).toNatClampNeg) else if z = 5 then f_bta (nI (mSo m (3 * x + y).toNatClampNeg)) 3 0 (-1) (f_bc (nI (mSo m (3 * x + y).toNatClampNeg)) + 1) else -102) else -101
theorem x_member (h : InvX S m) (hm : MOk m) : Sp (l, wX, D, ad, cA) 4 m_SB_member [.ref 0, .int x, .int y, .int z] S (fun v S' => v = .int (v_member m x y z) ∧ InvX S' m) := by
  have hM := gM_eq (m := m) h.2.2.1 x
  have hK := gK_eq (m := m) h.2.2.2.1 x y
  have hl6 : (mE m).length ≤ 6 := hm.2.2.2.1.2.2.1
  have hs5 : S.1 18 5 = nI (mE m).length := h.2.2.2.1.2.2.1
  unfold v_member
  refine Sp.of dk_SB_member ok_SB_member rfl (g_ld rfl rfl rfl (g_gr rfl rfl rfl rfl rfl (g_ld rfl rfl rfl (g_ld rfl rfl rfl (g_cv rfl (s_hasMember (by decide)) (by omega) rfl rfl rfl rfl rfl rfl rfl rfl rfl (z_k1 (g_if rfl rfl (fun zc9 => (g_ld rfl rfl rfl (g_ld rfl rfl rfl (g_cs rfl (s_placeOf) (by omega) rfl rfl rfl rfl rfl rfl (z_k1 (g_st rfl rfl rfl rfl rfl (g_ld rfl rfl rfl ?_))))))) (fun zc9 => (g_c rfl rfl (g_ri rfl rfl rfl ?_))))))))))
  · have a := b2_n.mp zc9
    rw [hM] at a
    rw [if_pos a]
    obtain ⟨c, j, hc, hj, ex, ey, hp, hp12, hcn⟩ := mem_in hm a
    have exc : x.toNatClampNeg = c := by rw [ex]; exact nI_clamp (by omega)
    have hso := (srt_eq h hm hp12 _ (Nat.le_refl _)).1
    rw [hp, nI_clamp (by omega), exc]
    rw [hp] at hK
    by_cases hy : 0 ≤ z ∧ z < 6
    · obtain ⟨i, hi, rfl, -⟩ := in_cl (n := 6) hy.1 hy.2
      have h6 : i = 0 ∨ i = 1 ∨ i = 2 ∨ i = 3 ∨ i = 4 ∨ i = 5 := by omega
      rcases h6 with e | e | e | e | e | e
      · subst e
        rw [if_pos (by decide)]
        refine g_tin (off := 37) (tgt := 60) rfl (by decide) (by decide) (by decide) (by decide) (g_ld rfl rfl rfl (g_gr rfl rfl rfl rfl rfl (g_ld rfl rfl rfl (g_cv rfl (s_kindOf (by decide)) (by omega) rfl rfl rfl rfl rfl rfl rfl rfl rfl (z_k1 (g_ri rfl rfl rfl ?_))))))
        exact ⟨by rw [hK], h⟩
      · subst e
        rw [if_neg (by decide), if_pos (by decide)]
        refine g_tin (off := 47) (tgt := 70) rfl (by decide) (by decide) (by decide) (by decide) (g_ld rfl rfl rfl (g_ld rfl rfl rfl (g_ld rfl rfl rfl (g_c rfl rfl (g_cv rfl (s_added h hm hc hp12 (p := 0) (by omega) ex rfl rfl) (by omega) rfl rfl rfl rfl rfl rfl rfl rfl rfl (fun zv75 zS75 zh75 => ?_))))))
        obtain ⟨rfl, hI⟩ := zh75
        refine (g_ri rfl rfl rfl ?_)
        exact ⟨rfl, hI⟩
      · subst e
        rw [if_neg (by decide), if_neg (by decide), if_pos (by decide)]
        refine g_tin (off := 56) (tgt := 79) rfl (by decide) (by decide) (by decide) (by decide) (g_ld rfl rfl rfl (g_ld rfl rfl rfl (g_ld rfl rfl rfl (g_c rfl rfl (g_cv rfl (s_added h hm hc hp12 (p := 1) (by omega) ex rfl rfl) (by omega) rfl rfl rfl rfl rfl rfl rfl rfl rfl (fun zv84 zS84 zh84 => ?_))))))
        obtain ⟨rfl, hI⟩ := zh84
        refine (g_ri rfl rfl rfl ?_)
        exact ⟨rfl, hI⟩
      · subst e
        rw [if_neg (by decide), if_neg (by decide), if_neg (by decide), if_pos (by decide)]
        refine g_tin (off := 65) (tgt := 88) rfl (by decide) (by decide) (by decide) (by decide) (g_ld rfl rfl rfl (g_gr rfl rfl rfl rfl rfl (g_ld rfl rfl rfl (g_cv rfl (s_signsIn (by decide)) (by omega) rfl rfl rfl rfl rfl rfl rfl rfl rfl (z_k1 (g_ri rfl rfl rfl ?_))))))
        obtain ⟨st, h1, h2, h3, h4, h5⟩ := bk_ty h.2.2.1 (p := 3 * c + j) (by omega)
        exact ⟨by rw [h1, h2, pk_sub (by omega), show st + (bT (mB m) (3 * c + j)).length - st = (bT (mB m) (3 * c + j)).length by omega], h⟩
      · subst e
        rw [if_neg (by decide), if_neg (by decide), if_neg (by decide), if_neg (by decide), if_pos (by decide)]
        refine g_tin (off := 75) (tgt := 98) rfl (by decide) (by decide) (by decide) (by decide) (g_ld rfl rfl rfl (g_gr rfl rfl rfl rfl rfl (g_ld rfl rfl rfl (g_cv rfl (s_sortsOf hl6 hs5) (by omega) rfl rfl rfl rfl rfl rfl rfl rfl rfl (z_k1 (g_ri rfl rfl rfl ?_))))))
        exact ⟨by rw [hso]; rfl, h⟩
      · subst e
        rw [if_neg (by decide), if_neg (by decide), if_neg (by decide), if_neg (by decide), if_neg (by decide), if_pos (by decide)]
        refine g_tin (off := 85) (tgt := 108) rfl (by decide) (by decide) (by decide) (by decide) (g_ld rfl rfl rfl (g_gr rfl rfl rfl rfl rfl (g_ld rfl rfl rfl (g_cv rfl (s_sortsOf hl6 hs5) (by omega) rfl rfl rfl rfl rfl rfl rfl rfl rfl (z_k1 (g_cs rfl (s_bestToAsk) (by omega) rfl rfl rfl rfl rfl rfl (z_k1 (g_ri rfl rfl rfl ?_))))))))
        exact ⟨by rw [hso]; rfl, h⟩
    · have hne : ∀ k : Int32, 0 ≤ k → k < 6 → ¬ z = k := fun k h1 h2 e => hy (by rw [e]; exact ⟨h1, h2⟩)
      rw [if_neg (hne 0 (by decide) (by decide)), if_neg (hne 1 (by decide) (by decide)), if_neg (hne 2 (by decide) (by decide)), if_neg (hne 3 (by decide) (by decide)), if_neg (hne 4 (by decide) (by decide)), if_neg (hne 5 (by decide) (by decide))]
      have ho : z.toInt < 0 ∨ 5 < z.toInt := by
        rw [Int32.le_iff_toInt_le, Int32.lt_iff_toInt_lt] at hy
        have e0 : (0 : Int32).toInt = 0 := by decide
        have e6 : (6 : Int32).toInt = 6 := by decide
        omega
      refine g_tout (tgt := 121) rfl ho (by decide) (g_c rfl rfl (g_ri rfl rfl rfl ?_))
      exact ⟨rfl, h⟩
  · have a := b2_0.mp (Decidable.not_not.mp zc9)
    rw [hM] at a
    rw [if_neg a]
    exact ⟨rfl, h⟩
end
