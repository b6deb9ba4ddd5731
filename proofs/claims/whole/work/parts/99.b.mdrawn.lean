/-! the reference: drawn -/
theorem land31 {n : Nat} (h : n < 2 ^ 63) : lN n &&& 2147483647 = lN (n % 2147483648) := by
  apply Int64.toBitVec_inj.mp
  apply BitVec.eq_of_toNat_eq
  have e : (2147483647 : Int64).toBitVec.toNat = 2 ^ 31 - 1 := by decide
  have e2 : (lN n).toBitVec.toNat = n := by
    show (BitVec.ofNat 64 n).toNat = n
    rw [BitVec.toNat_ofNat]
    exact Nat.mod_eq_of_lt (by omega)
  rw [Int64.toBitVec_and, BitVec.toNat_and, e, Nat.and_two_pow_sub_one_eq_mod, e2]
  show _ = (BitVec.ofNat 64 _).toNat
  rw [BitVec.toNat_ofNat]
  have := Nat.mod_lt n (show 0 < 2147483648 by decide)
  rw [Nat.mod_eq_of_lt (a := n % 2147483648) (by omega)]
def DrM (S0 S : zS) (n : Nat) (bb : List Nat) (s : Nat) : Prop := Am [17] [27, 36] S0 S ∧ S.1 0 27 = nI (n + bb.length) ∧ S.1 0 36 = nI s ∧ s < 2147483648 ∧ (∀ i, i < n → S.1 17 i = S0.1 17 i) ∧ At (S.1 17) n bb
section
variable {l : Launch} {D : va_G} {ad : Nat → Nat} {cA : ClassId} {x y z w : Int32} {S S' S0 : zS} {m : Mt} {B : Bk} {V : Nat → Nat} {n p k r c j s o b i N : Nat} {bb : List Nat}
theorem s_drawM (hs : s < 2147483648) (h36 : S.1 0 36 = nI s) (hk : 0 < k) (hk2 : k < 2 ^ 31) (hx : x = nI k) : Sp (l, wM, D, ad, cA) 0 m_M_draw [.ref 0, .int x] S (fun v S' => v = .int (nI (nx s / 65536 % k)) ∧ S' = z_ui S 0 36 (nI (nx s))) := by
  subst hx
  have e1 : (1103515245 * (S.1 0 36).toInt64 + 12345 &&& 2147483647).toInt32 = nI (nx s) := by
    have e : (1103515245 : Int64) * lN s + 12345 = lN (1103515245 * s + 12345) := by
      rw [show (1103515245 : Int64) = lN 1103515245 from rfl, show (12345 : Int64) = lN 12345 from rfl, lN_mul, lN_add]
    rw [h36, nI_l (by omega), e, land31 (by omega), lN_i]
    rfl
  have hn := nx_lt s
  refine Sp.of dk_M_draw ok_M_draw rfl (g_ld rfl rfl rfl (g_c rfl rfl (g_ld rfl rfl rfl (g_gi rfl rfl rfl rfl rfl (g_un rfl rfl (g_bin rfl rfl (g_c rfl rfl (g_bin rfl rfl (g_c rfl rfl (g_bin rfl rfl (g_un rfl rfl (g_pi rfl rfl rfl rfl rfl rfl rfl (g_ld rfl rfl rfl (g_gi rfl rfl rfl rfl rfl (g_c rfl rfl (g_idiv rfl ?_ (g_ld rfl rfl rfl (g_irem rfl ?_ (g_ri rfl rfl rfl ?_)))))))))))))))))))
  · decide
  · intro q
    have := eq_n (a := k) (b := 0) q
    omega
  · rw [e1, ui_at, pk_us, show (65536 : Int32) = nI 65536 from rfl, pk_div (by omega) (by omega) (by omega), pk_rem (by omega) hk (by omega)]
    exact ⟨rfl, rfl⟩
theorem lp_bareM (hB : BkM S B) (hW : WfB B) : ∀ (k i : Nat), i + k = bN B → Go (l, wM, D, ad, cA) 0 m_M_bareMany (fun v S' => v = .int (nI (pls B).length) ∧ S' = S) 4 [some (.ref 0), some (.int (nI ((List.range' 0 i).filter (isP B)).length)), some (.int (nI i))] [] S
  | 0, i, e => by
    have h4 := hW.1
    have ei : i = bN B := by omega
    subst ei
    refine (g_ld rfl rfl rfl (g_ld rfl rfl rfl (g_gi rfl rfl rfl rfl rfl (g_if rfl rfl (fun zc9 => (g_ld rfl rfl rfl (g_ri rfl rfl rfl ?_))) (fun zc9 => ?_)))))
    · exact ⟨rfl, rfl⟩
    · rw [hB.1] at zc9
      exact absurd (Int32.le_refl _) zc9
  | k + 1, i, e => by
    have h4 := hW.1
    have hP2 := hW.2.1 i
    have rP : S.1 6 (nI i).toNatClampNeg = nI (bP B i) := by rw [nI_clamp (by omega)]; exact hB.2.1 i (by omega)
    have ih := lp_bareM hB hW k (i + 1) (by omega)
    rw [List.range'_concat, List.filter_append, nI_succ i] at ih
    refine (g_ld rfl rfl rfl (g_ld rfl rfl rfl (g_gi rfl rfl rfl rfl rfl (g_if rfl rfl (fun zc9 => (g_ld rfl rfl rfl (g_ri rfl rfl rfl ?_))) (fun zc9 => (g_ld rfl rfl rfl (g_ld rfl rfl rfl (g_gr rfl rfl rfl rfl rfl (g_ld rfl rfl rfl (g_ald rfl rfl rfl ?_ (g_if rfl rfl (fun zc19 => (g_c rfl rfl (g_bin rfl rfl (g_st rfl rfl rfl rfl rfl (g_inc rfl rfl rfl rfl (g_go rfl ?_)))))) (fun zc19 => (g_c rfl rfl (g_go rfl (g_bin rfl rfl (g_st rfl rfl rfl rfl rfl (g_inc rfl rfl rfl rfl (g_go rfl ?_))))))))))))))))))
    · rw [hB.1] at zc9
      have := le_n zc9
      omega
    · exact vp_in_nI (show i < 4 by omega) (by decide)
    · rw [rP] at zc19
      have hp : ¬ isP B (0 + 1 * i) = true := by
        unfold isP
        rw [Nat.zero_add, Nat.one_mul]
        simpa using fun e => zc19 (by rw [e]; rfl)
      rw [List.filter_cons_of_neg hp, List.filter_nil, List.append_nil] at ih
      rw [show ∀ a : Nat, nI a + 0 = nI (a + 0) from fun a => nI_add a 0]
      exact ih
    · rw [rP] at zc19
      have hp : isP B (0 + 1 * i) = true := by
        unfold isP
        rw [Nat.zero_add, Nat.one_mul]
        simpa using eq_n (b := 0) (Decidable.not_not.mp zc19)
      rw [List.filter_cons_of_pos hp, List.filter_nil, List.length_append, List.length_cons, List.length_nil, Nat.zero_add, nI_succ] at ih
      exact ih
theorem s_bareMany (hB : BkM S B) (hW : WfB B) : Sp (l, wM, D, ad, cA) 0 m_M_bareMany [.ref 0] S (fun v S' => v = .int (nI (pls B).length) ∧ S' = S) := by
  refine Sp.of dk_M_bareMany ok_M_bareMany rfl (g_c rfl rfl (g_st rfl rfl rfl rfl rfl (g_c rfl rfl (g_st rfl rfl rfl rfl rfl ?_))))
  exact lp_bareM hB hW (bN B) 0 (by omega)
theorem lp_bareOf (hB : BkM S B) (hW : WfB B) {x1 : Int32} : ∀ (k i o : Nat), i + k = bN B → o < ((List.range' i k).filter (isP B)).length → o < 2 ^ 30 → Go (l, wM, D, ad, cA) 0 m_M_bareOf (fun v S' => v = .int (nI (((List.range' i k).filter (isP B)).getD o 0)) ∧ S' = S) 4 [some (.ref 0), some (.int x1), some (.int (nI o)), some (.int (nI i))] [] S
  | 0, i, o, e, ho, _ => by simp at ho
  | k + 1, i, o, e, ho, ho2 => by
    have h4 := hW.1
    have hP2 := hW.2.1 i
    have rP : S.1 6 (nI i).toNatClampNeg = nI (bP B i) := by rw [nI_clamp (by omega)]; exact hB.2.1 i (by omega)
    have hin : vp_in (nI i) 4 := vp_in_nI (show i < 4 by omega) (by decide)
    rw [List.range'_succ] at ho ⊢
    by_cases hp : isP B i = true
    · have hz : bP B i = 0 := by simpa [isP] using hp
      rw [List.filter_cons_of_pos hp] at ho ⊢
      cases o with
      | zero =>
        refine (g_ld rfl rfl rfl (g_gr rfl rfl rfl rfl rfl (g_ld rfl rfl rfl (g_ald rfl rfl rfl ?_ (g_if rfl rfl (fun zc10 => ?_) (fun zc10 => (g_ld rfl rfl rfl (g_if rfl rfl (fun zc14 => (g_ld rfl rfl rfl (g_ri rfl rfl rfl ?_))) (fun zc14 => ?_)))))))))
        · exact hin
        · rw [rP, hz] at zc10
          exact absurd zc10 (by decide)
        · exact ⟨rfl, rfl⟩
        · exact absurd (by decide) zc14
      | succ o =>
        have ih := lp_bareOf hB hW (x1 := x1) k (i + 1) o (by omega) (by simpa using ho) (by omega)
        rw [nI_succ i] at ih
        refine (g_ld rfl rfl rfl (g_gr rfl rfl rfl rfl rfl (g_ld rfl rfl rfl (g_ald rfl rfl rfl ?_ (g_if rfl rfl (fun zc10 => ?_) (fun zc10 => (g_ld rfl rfl rfl (g_if rfl rfl (fun zc14 => (g_ld rfl rfl rfl (g_ri rfl rfl rfl ?_))) (fun zc14 => ?_)))))))))
        · exact hin
        · rw [rP, hz] at zc10
          exact absurd zc10 (by decide)
        · have := le_n (b := 0) zc14
          omega
        · refine (g_ld rfl rfl rfl (g_ld rfl rfl rfl (g_gr rfl rfl rfl rfl rfl (g_ld rfl rfl rfl (g_ald rfl rfl rfl ?_ (g_if rfl rfl (fun zc24 => (g_c rfl rfl (g_bin rfl rfl (g_st rfl rfl rfl rfl rfl (g_inc rfl rfl rfl rfl (g_go rfl ?_)))))) (fun zc24 => (g_c rfl rfl (g_go rfl (g_bin rfl rfl (g_st rfl rfl rfl rfl rfl (g_inc rfl rfl rfl rfl (g_go rfl ?_)))))))))))))
          · exact hin
          · rw [rP, hz] at zc24
            exact absurd rfl zc24
          · rw [nI_succ, Int32.add_sub_cancel]
            exact ih
    · have hz : ¬ bP B i = 0 := by simpa [isP] using hp
      rw [List.filter_cons_of_neg hp] at ho ⊢
      have ih := lp_bareOf hB hW (x1 := x1) k (i + 1) o (by omega) ho ho2
      rw [nI_succ i] at ih
      have go17 : Go (l, wM, D, ad, cA) 0 m_M_bareOf (fun v S' => v = .int (nI (((List.range' (i + 1) k).filter (isP B)).getD o 0)) ∧ S' = S) 17 [some (.ref 0), some (.int x1), some (.int (nI o)), some (.int (nI i))] [] S := by
        refine (g_ld rfl rfl rfl (g_ld rfl rfl rfl (g_gr rfl rfl rfl rfl rfl (g_ld rfl rfl rfl (g_ald rfl rfl rfl ?_ (g_if rfl rfl (fun zc24 => (g_c rfl rfl (g_bin rfl rfl (g_st rfl rfl rfl rfl rfl (g_inc rfl rfl rfl rfl (g_go rfl ?_)))))) (fun zc24 => (g_c rfl rfl (g_go rfl (g_bin rfl rfl (g_st rfl rfl rfl rfl rfl (g_inc rfl rfl rfl rfl (g_go rfl ?_)))))))))))))
        · exact hin
        · rw [show nI o - 0 = nI o from Int32.sub_zero _]
          exact ih
        · rw [rP] at zc24
          exact absurd (eq_n (b := 0) (Decidable.not_not.mp zc24)) hz
      refine (g_ld rfl rfl rfl (g_gr rfl rfl rfl rfl rfl (g_ld rfl rfl rfl (g_ald rfl rfl rfl ?_ (g_if rfl rfl (fun zc10 => ?_) (fun zc10 => (g_ld rfl rfl rfl (g_if rfl rfl (fun zc14 => (g_ld rfl rfl rfl (g_ri rfl rfl rfl ?_))) (fun zc14 => ?_)))))))))
      · exact hin
      · exact go17
      · rw [rP] at zc10
        exact absurd (nI_lt (a := 0) (Nat.pos_of_ne_zero hz) (by omega)) zc10
      · exact go17
theorem s_bareOf (hB : BkM S B) (hW : WfB B) (ho : o < (pls B).length) (ho2 : o < 2 ^ 30) : Sp (l, wM, D, ad, cA) 0 m_M_bareOf [.ref 0, .int (nI o)] S (fun v S' => v = .int (nI ((pls B).getD o 0)) ∧ S' = S) := by
  refine Sp.of dk_M_bareOf ok_M_bareOf rfl (g_ld rfl rfl rfl (g_st rfl rfl rfl rfl rfl (g_c rfl rfl (g_st rfl rfl rfl rfl rfl ?_))))
  exact lp_bareOf hB hW (bN B) 0 o (by omega) ho ho2
theorem DrM.bk (h : DrM S0 S n bb s) (hB : BkM S0 B) : BkM S B := hB.am h.1
theorem DrM.seed {s' : Nat} (h : DrM S0 S n bb s) (hs : s' < 2147483648) : DrM S0 (z_ui S 0 36 (nI s')) n bb s' := ⟨h.1.fd (by decide), by rw [ui_at, pk_un (by decide)]; exact h.2.1, by rw [ui_at, pk_us], hs, by rw [ui_ne (by decide)]; exact h.2.2.2.2.1, by rw [ui_ne (by decide)]; exact h.2.2.2.2.2⟩
theorem DrM.push {y : Nat} (h : DrM S0 S n bb s) : DrM S0 (z_ui (z_ui S 17 (n + bb.length) (nI y)) 0 27 (nI (n + bb.length + 1))) n (bb ++ [y]) s := by
  obtain ⟨h1, h2, h3, h4, h5, h6⟩ := h
  refine ⟨(h1.ui (by decide) (by decide)).fd (by decide), ?_, ?_, h4, fun i hi => ?_, ?_⟩
  · rw [ui_at, pk_us, List.length_append]; rfl
  · rw [ui_at, pk_un (by decide), ui_ne (by decide)]; exact h3
  · rw [ui_ne (by decide), ui_at, pk_un (by omega)]; exact h5 i hi
  · rw [ui_ne (by decide), ui_at]
    exact At.push h6
theorem pls_le (hW : WfB B) : (pls B).length ≤ 4 := by
  have := List.length_filter_le (isP B) (List.range' 0 (bN B))
  rw [List.length_range'] at this
  have h4 := hW.1
  unfold pls
  omega
theorem lp_dn3 (hB : BkM S0 B) (hW : WfB B) (hp : 0 < (pls B).length) (hn : n ≤ 100) (hc : c < bN B) {x1 x2 x3 : Int32} {Post : Value → zS → Prop} {F : List Nat × Nat} (K : ∀ T w5, DrM S0 T n F.1 F.2 → Go (l, wM, D, ad, cA) 1 m_M_addDrawn Post 84 [some (.ref 0), some (.int x1), some (.int x2), some (.int x3), some (.int (nI c)), w5] [] T) : ∀ (k i s : Nat) (bb : List Nat) (S : zS), i + k = bP B c → bb.length + k ≤ 100 → (bb ++ (dPl B k s).1, (dPl B k s).2) = F → DrM S0 S n bb s → Go (l, wM, D, ad, cA) 1 m_M_addDrawn Post 50 [some (.ref 0), some (.int x1), some (.int x2), some (.int x3), some (.int (nI c)), some (.int (nI i))] [] S
  | 0, i, s, bb, S, e, hl, hF, h => by
    have h4 := hW.1
    have hP2 := hW.2.1 c
    rw [dPl, List.append_nil] at hF
    rw [← hF] at K
    have rP : S.1 6 (nI c).toNatClampNeg = nI (bP B c) := by rw [nI_clamp (by omega)]; exact (h.bk hB).2.1 c hc
    refine (g_ld rfl rfl rfl (g_ld rfl rfl rfl (g_gr rfl rfl rfl rfl rfl (g_ld rfl rfl rfl (g_ald rfl rfl rfl ?_ (g_if rfl rfl (fun zc59 => ?_) (fun zc59 => ?_)))))))
    · exact vp_in_nI (show c < 4 by omega) (by decide)
    · exact K S _ h
    · rw [rP] at zc59
      have := nle_n zc59
      omega
  | k + 1, i, s, bb, S, e, hl, hF, h => by
    have h4 := hW.1
    have hP2 := hW.2.1 c
    have hpl := pls_le hW
    have rP : S.1 6 (nI c).toNatClampNeg = nI (bP B c) := by rw [nI_clamp (by omega)]; exact (h.bk hB).2.1 c hc
    have hm4 : nx s / 65536 % (pls B).length < (pls B).length := Nat.mod_lt _ hp
    have hd1 := h.seed (nx_lt s)
    refine (g_ld rfl rfl rfl (g_ld rfl rfl rfl (g_gr rfl rfl rfl rfl rfl (g_ld rfl rfl rfl (g_ald rfl rfl rfl ?_ (g_if rfl rfl (fun zc59 => ?_) (fun zc59 => ?_)))))))
    · exact vp_in_nI (show c < 4 by omega) (by decide)
    · rw [rP] at zc59
      have := le_n zc59
      omega
    · refine (g_ld rfl rfl rfl (g_ld rfl rfl rfl (g_ld rfl rfl rfl (g_ld rfl rfl rfl (g_cv rfl (s_bareMany (h.bk hB) hW) (by omega) rfl rfl rfl rfl rfl rfl rfl rfl rfl (z_k1 (g_cv rfl (s_drawM h.2.2.2.1 h.2.2.1 hp (by omega) rfl) (by omega) rfl rfl rfl rfl rfl rfl rfl rfl rfl (fun zv69 zS69 zh69 => ?_))))))))
      obtain ⟨rfl, rfl⟩ := zh69
      refine (g_cv rfl (s_bareOf (hd1.bk hB) hW hm4 (by omega)) (by omega) rfl rfl rfl rfl rfl rfl rfl rfl rfl (z_k1 (g_cv rfl (s_addM (n := n + bb.length) (by omega) hd1.2.1) (by omega) rfl rfl rfl rfl rfl rfl rfl rfl rfl (fun zv75 zS75 zh75 => ?_))))
      obtain ⟨rfl, rfl⟩ := zh75
      refine (g_inc rfl rfl rfl rfl (g_go rfl ?_))
      have := lp_dn3 hB hW hp hn hc K k (i + 1) (nx s) (bb ++ [(pls B).getD (nx s / 65536 % (pls B).length) 0]) _ (by omega) (by rw [List.length_append]; simp; omega) (by rw [← hF, dPl, List.append_assoc]; rfl) hd1.push
      rw [nI_succ i] at this
      exact this
theorem lp_dn2 (hB : BkM S0 B) (hW : WfB B) (hnB : 0 < bN B) (hp : 0 < (pls B).length) (hn : n ≤ 50) (hc : c < bN B) {F : List Nat × Nat} : ∀ (k i s : Nat) (bb : List Nat) (S : zS) (w4 w5 : Option Value), i + k = bP B c → bb.length + 3 * k ≤ 20 → (bb ++ (dArgs B k s).1, (dArgs B k s).2) = F → DrM S0 S n bb s → Go (l, wM, D, ad, cA) 1 m_M_addDrawn (fun v S' => v = .int (nI n) ∧ DrM S0 S' n F.1 F.2) 21 [some (.ref 0), some (.int (nI n)), some (.int (nI c)), some (.int (nI i)), w4, w5] [] S
  | 0, i, s, bb, S, w4, w5, e, hl, hF, h => by
    have h4 := hW.1
    have hP2 := hW.2.1 c
    rw [dArgs, List.append_nil] at hF
    have rP : S.1 6 (nI c).toNatClampNeg = nI (bP B c) := by rw [nI_clamp (by omega)]; exact (h.bk hB).2.1 c hc
    refine (g_ld rfl rfl rfl (g_ld rfl rfl rfl (g_gr rfl rfl rfl rfl rfl (g_ld rfl rfl rfl (g_ald rfl rfl rfl ?_ (g_if rfl rfl (fun zc28 => (g_ld rfl rfl rfl (g_ri rfl rfl rfl ?_))) (fun zc28 => ?_)))))))
    · exact vp_in_nI (show c < 4 by omega) (by decide)
    · rw [← hF]; exact ⟨rfl, h⟩
    · rw [rP] at zc28
      have := nle_n zc28
      omega
  | k + 1, i, s, bb, S, w4, w5, e, hl, hF, h => by
    have h4 := hW.1
    have hP2 := hW.2.1 c
    have rP : S.1 6 (nI c).toNatClampNeg = nI (bP B c) := by rw [nI_clamp (by omega)]; exact (h.bk hB).2.1 c hc
    have hdc : dC B s < bN B := Nat.mod_lt _ hnB
    have hd1 := h.seed (nx_lt s)
    have hP2' := hW.2.1 (dC B s)
    have hln := (dPl_sp (B := B) (bP B (dC B s)) (nx s) (nx_lt s)).1
    refine (g_ld rfl rfl rfl (g_ld rfl rfl rfl (g_gr rfl rfl rfl rfl rfl (g_ld rfl rfl rfl (g_ald rfl rfl rfl ?_ (g_if rfl rfl (fun zc28 => (g_ld rfl rfl rfl (g_ri rfl rfl rfl ?_))) (fun zc28 => ?_)))))))
    · exact vp_in_nI (show c < 4 by omega) (by decide)
    · rw [rP] at zc28
      have := le_n zc28
      omega
    · refine (g_ld rfl rfl rfl (g_ld rfl rfl rfl (g_gi rfl rfl rfl rfl rfl ?_)))
      rw [(h.bk hB).1]
      refine (g_cv rfl (s_drawM h.2.2.2.1 h.2.2.1 hnB (by omega) rfl) (by omega) rfl rfl rfl rfl rfl rfl rfl rfl rfl (fun zv36 zS36 zh36 => ?_))
      obtain ⟨rfl, rfl⟩ := zh36
      refine (g_st rfl rfl rfl rfl rfl (g_ld rfl rfl rfl (g_ld rfl rfl rfl (g_cv rfl (s_addM (n := n + bb.length) (by omega) hd1.2.1) (by omega) rfl rfl rfl rfl rfl rfl rfl rfl rfl (fun zv44 zS44 zh44 => ?_)))))
      obtain ⟨rfl, rfl⟩ := zh44
      refine (g_c rfl rfl (g_st rfl rfl rfl rfl rfl ?_))
      refine lp_dn3 hB hW hp (by omega) hdc (fun T w5 hT => ?_) (bP B (dC B s)) 0 (nx s) (bb ++ [dC B s]) _ (by omega) (by rw [List.length_append]; simp; omega) rfl hd1.push
      refine (g_inc rfl rfl rfl rfl (g_go rfl ?_))
      have e1 : bb ++ [dC B s] ++ (dPl B (bP B (dC B s)) (nx s)).1 = bb ++ (dArg B s).1 := by rw [List.append_assoc]; rfl
      have hT2 : DrM S0 T n (bb ++ (dArg B s).1) (dArg B s).2 := by rw [← e1]; exact hT
      have := lp_dn2 hB hW hnB hp hn hc (F := F) k (i + 1) (dArg B s).2 (bb ++ (dArg B s).1) T (some (.int (nI (dC B s)))) w5 (by omega) (by rw [List.length_append, dArg_sp.1]; omega) (by rw [← hF, dArgs, List.append_assoc]) hT2
      rw [nI_succ i] at this
      exact this
theorem s_addDrawn (hB : BkM S B) (hW : WfB B) (hnB : 0 < bN B) (hp : 0 < (pls B).length) (hn : n ≤ 50) (h27 : S.1 0 27 = nI n) (h36 : S.1 0 36 = nI s) (hs : s < 2147483648) : Sp (l, wM, D, ad, cA) 1 m_M_addDrawn [.ref 0] S (fun v S' => v = .int (nI n) ∧ DrM S S' n (dTy B s).1 (dTy B s).2) := by
  have h4 := hW.1
  have hdc : dC B s < bN B := Nat.mod_lt _ hnB
  have hP2' := hW.2.1 (dC B s)
  have h0 : DrM S S n [] s := ⟨Am.rf, by rw [h27]; rfl, h36, hs, fun _ _ => rfl, At.nil⟩
  have hd1 := h0.seed (nx_lt s)
  refine Sp.of dk_M_addDrawn ok_M_addDrawn rfl (g_ld rfl rfl rfl (g_gi rfl rfl rfl rfl rfl (g_st rfl rfl rfl rfl rfl (g_ld rfl rfl rfl (g_ld rfl rfl rfl (g_gi rfl rfl rfl rfl rfl ?_))))))
  rw [hB.1, h27]
  refine (g_cv rfl (s_drawM hs h36 hnB (by omega) rfl) (by omega) rfl rfl rfl rfl rfl rfl rfl rfl rfl (fun zv10 zS10 zh10 => ?_))
  obtain ⟨rfl, rfl⟩ := zh10
  refine (g_st rfl rfl rfl rfl rfl (g_ld rfl rfl rfl (g_ld rfl rfl rfl (g_cv rfl (s_addM (n := n + ([] : List Nat).length) (by simp; omega) hd1.2.1) (by omega) rfl rfl rfl rfl rfl rfl rfl rfl rfl (fun zv16 zS16 zh16 => ?_)))))
  obtain ⟨rfl, rfl⟩ := zh16
  refine (g_c rfl rfl (g_st rfl rfl rfl rfl rfl ?_))
  exact lp_dn2 hB hW hnB hp hn hdc (F := ((dTy B s).1, (dTy B s).2)) (bP B (dC B s)) 0 (nx s) ([] ++ [dC B s]) _ none none (by omega) (by simp; omega) rfl hd1.push
end
