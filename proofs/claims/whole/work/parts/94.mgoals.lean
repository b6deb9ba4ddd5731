/-! the reference: goals -/
def GoalAt (S : zS) (i : Nat) (t u : List Nat) (n : Nat) : Prop := ∃ a b, S.1 18 i = nI a ∧ S.1 19 i = nI b ∧ S.1 20 i = nI n ∧ At (S.1 17) a t ∧ At (S.1 17) b u ∧ a + t.length ≤ n ∧ b + u.length ≤ n
def sbK (P V : Nat → Nat) (w u : List Nat) (c : Nat) : Nat → List (List Nat × List Nat)
  | 0 => []
  | k + 1 => (sbK P V w u c k ++ (if V (2 * c + k) % 2 = 1 then [(arg P w k, arg P u k)] else [])) ++ (if V (2 * c + k) / 2 % 2 = 1 then [(arg P u k, arg P w k)] else [])
/-- the goals of L stand from place i on -/
def GsX (S0 S : zS) (i n : Nat) (L : List (List Nat × List Nat)) : Prop := Am [18, 19, 20] [31] S0 S ∧ S.1 0 31 = nI (i + L.length) ∧ (∀ j, j < L.length → GoalAt S (i + j) (L.getD j ([], [])).1 (L.getD j ([], [])).2 n) ∧ ∀ j, j < i → S.1 18 j = S0.1 18 j ∧ S.1 19 j = S0.1 19 j ∧ S.1 20 j = S0.1 20 j
def adr (P : Nat → Nat) (w : List Nat) (k : Nat) : Nat := 1 + (if k = 0 then 0 else skipL P 1 w.tail)
theorem adr_0 {P : Nat → Nat} {w : List Nat} : adr P w 0 = 1 := rfl
theorem adr_1 {P : Nat → Nat} {w : List Nat} : adr P w 1 = 1 + skipL P 1 w.tail := rfl
theorem bit1 : ∀ v, v < 4 → (nI v &&& 1 = 1 ↔ v % 2 = 1) := by decide
theorem bit2 : ∀ v, v < 4 → (nI v &&& 2 = 2 ↔ v / 2 % 2 = 1) := by decide
section
variable {l : Launch} {D : va_G} {ad : Nat → Nat} {cA : ClassId} {x y z w : Int32} {S S' S0 : zS} {m : Mt} {B : Bk} {V : Nat → Nat} {t u v A : List Nat} {n p k r c j s o a b i N st of : Nat} {L : List (List Nat × List Nat)}
theorem s_goal (hi : i < 400) (h31 : S.1 0 31 = nI i) : Sp (l, wM, D, ad, cA) 0 m_M_goal [.ref 0, .int x, .int y] S (fun v S' => v = .null ∧ S' = z_ui (z_ui (z_ui (z_ui S 18 i x) 19 i y) 20 i (S.1 0 27)) 0 31 (nI (i + 1))) := by
  have hin : vp_in (nI i) 400 := vp_in_nI hi (by decide)
  refine Sp.of dk_M_goal ok_M_goal rfl (g_ld rfl rfl rfl (g_gr rfl rfl rfl rfl rfl (g_ld rfl rfl rfl (g_gi rfl rfl rfl rfl rfl (g_ld rfl rfl rfl (g_ast rfl rfl rfl ?_ (g_ld rfl rfl rfl (g_gr rfl rfl rfl rfl rfl (g_ld rfl rfl rfl (g_gi rfl rfl rfl rfl rfl (g_ld rfl rfl rfl (g_ast rfl rfl rfl ?_ (g_ld rfl rfl rfl (g_gr rfl rfl rfl rfl rfl (g_ld rfl rfl rfl (g_gi rfl rfl rfl rfl rfl (g_ld rfl rfl rfl (g_gi rfl rfl rfl rfl rfl (g_ast rfl rfl rfl ?_ (g_ld rfl rfl rfl (g_dup rfl rfl (g_gi rfl rfl rfl rfl rfl (g_c rfl rfl (g_bin rfl rfl (g_pi rfl rfl rfl rfl rfl rfl rfl (g_rv rfl rfl ?_))))))))))))))))))))))))))
  · rw [h31]; exact hin
  · rw [ui_ne (by decide), h31]; exact hin
  · rw [ui_ne (by decide), ui_ne (by decide), h31]; exact hin
  · refine ⟨rfl, ?_⟩
    have e : ∀ (T : zS) (q i : Nat) (x : Int32), q ≠ 0 → (z_ui T q i x).1 0 = T.1 0 := fun T q i x hq => ui_ne (Ne.symm hq)
    rw [e _ _ _ _ (show (20 : Nat) ≠ 0 by decide), e _ _ _ _ (show (19 : Nat) ≠ 0 by decide), e _ _ _ _ (show (18 : Nat) ≠ 0 by decide), h31, nI_clamp (by omega), nI_succ]
theorem gs_push (h : GsX S0 S i n L) (h27 : S0.1 0 27 = nI n) (h1 : At (S0.1 17) a t) (h2 : At (S0.1 17) b u) (ha : a + t.length ≤ n) (hb : b + u.length ≤ n) : GsX S0 (z_ui (z_ui (z_ui (z_ui S 18 (i + L.length) (nI a)) 19 (i + L.length) (nI b)) 20 (i + L.length) (S.1 0 27)) 0 31 (nI (i + L.length + 1))) i n (L ++ [(t, u)]) := by
  obtain ⟨hA, h31, hg, hl⟩ := h
  have e27 : S.1 0 27 = nI n := by rw [hA.2.1 27 (by decide)]; exact h27
  have e17 : S.1 17 = S0.1 17 := hA.1 17 (by decide) (by decide)
  have c18 : (z_ui (z_ui (z_ui (z_ui S 18 (i + L.length) (nI a)) 19 (i + L.length) (nI b)) 20 (i + L.length) (S.1 0 27)) 0 31 (nI (i + L.length + 1))).1 18 = upd (S.1 18) (i + L.length) (nI a) := by rw [ui_ne (by decide), ui_ne (by decide), ui_ne (by decide), ui_at]
  have c19 : (z_ui (z_ui (z_ui (z_ui S 18 (i + L.length) (nI a)) 19 (i + L.length) (nI b)) 20 (i + L.length) (S.1 0 27)) 0 31 (nI (i + L.length + 1))).1 19 = upd (S.1 19) (i + L.length) (nI b) := by rw [ui_ne (by decide), ui_ne (by decide), ui_at, ui_ne (by decide)]
  have c20 : (z_ui (z_ui (z_ui (z_ui S 18 (i + L.length) (nI a)) 19 (i + L.length) (nI b)) 20 (i + L.length) (S.1 0 27)) 0 31 (nI (i + L.length + 1))).1 20 = upd (S.1 20) (i + L.length) (nI n) := by rw [ui_ne (by decide), ui_at, ui_ne (by decide), ui_ne (by decide), e27]
  have c17 : (z_ui (z_ui (z_ui (z_ui S 18 (i + L.length) (nI a)) 19 (i + L.length) (nI b)) 20 (i + L.length) (S.1 0 27)) 0 31 (nI (i + L.length + 1))).1 17 = S0.1 17 := by rw [ui_ne (by decide), ui_ne (by decide), ui_ne (by decide), ui_ne (by decide), e17]
  refine ⟨(((hA.ui (by decide) (by decide)).ui (by decide) (by decide)).ui (by decide) (by decide)).fd (by decide), ?_, fun j hj => ?_, fun j hj => ?_⟩
  · rw [ui_at, pk_us, List.length_append]; rfl
  · rw [List.length_append] at hj
    simp only [List.length_cons, List.length_nil] at hj
    unfold GoalAt
    rw [c17, c18, c19, c20]
    by_cases e : j < L.length
    · have eg : (L ++ [(t, u)]).getD j ([], []) = L.getD j ([], []) := by rw [List.getD_eq_getElem?_getD, List.getD_eq_getElem?_getD, List.getElem?_append_left e]
      rw [eg, pk_un (by omega), pk_un (by omega), pk_un (by omega)]
      have := hg j e
      unfold GoalAt at this
      rw [e17] at this
      exact this
    · have ej : j = L.length := by omega
      subst ej
      have eg : (L ++ [(t, u)]).getD L.length ([], []) = (t, u) := by rw [List.getD_eq_getElem?_getD, List.getElem?_append_right (Nat.le_refl _), Nat.sub_self]; rfl
      rw [eg, pk_us, pk_us, pk_us]
      exact ⟨a, b, rfl, rfl, rfl, h1, h2, ha, hb⟩
  · rw [c18, c19, c20, pk_un (by omega), pk_un (by omega), pk_un (by omega)]
    exact hl j hj
theorem sbK_len {P : Nat → Nat} : ∀ k, (sbK P V t u c k).length ≤ 2 * k
  | 0 => by simp [sbK]
  | k + 1 => by
    have := sbK_len (P := P) k
    rw [sbK, List.length_append, List.length_append]
    have h1 : (if V (2 * c + k) % 2 = 1 then [(arg P t k, arg P u k)] else []).length ≤ 1 := by split <;> simp
    have h2 : (if V (2 * c + k) / 2 % 2 = 1 then [(arg P u k, arg P t k)] else []).length ≤ 1 := by split <;> simp
    omega
theorem lp_ag (hB : BkM S0 B) (hW : WfB B) (hV : ∀ j, V j < 4) (h14 : ∀ j, j < 8 → S0.1 14 j = nI (V j)) (ht : CT B t) (hu : CT B u) (hat : ahd t = c) (hau : ahd u = c) (h1 : At (S0.1 17) a t) (h2 : At (S0.1 17) b u) (ha : a + t.length ≤ n) (hb : b + u.length ≤ n) (hn : n ≤ 4000) (h27 : S0.1 0 27 = nI n) (hi : i + 4 ≤ 400) : ∀ (r k : Nat) (S : zS) (px qx : Int32), k + r = bP B c → (k < bP B c → px = nI (a + adr (bP B) t k) ∧ qx = nI (b + adr (bP B) u k)) → GsX S0 S i n (sbK (bP B) V t u c k) → Go (l, wM, D, ad, cA) 1 m_M_addGoals (fun v S' => v = .null ∧ GsX S0 S' i n (sbK (bP B) V t u c (bP B c))) 20 [some (.ref 0), some (.int (nI a)), some (.int (nI b)), some (.int (nI c)), some (.int px), some (.int qx), some (.int (nI k))] [] S
  | 0, k, S, px, qx, e, _, hG => by
    have h4 := hW.1
    obtain ⟨c', r', e1, e2, hc⟩ := ht.ne
    have hP2 := hW.2.1 c
    have rP : S.1 6 (nI c).toNatClampNeg = nI (bP B c) := by rw [nI_clamp (by omega), hG.1.1 6 (by decide) (by decide)]; exact hB.2.1 c (by omega)
    have ek : k = bP B c := by omega
    subst ek
    refine (g_ld rfl rfl rfl (g_ld rfl rfl rfl (g_gr rfl rfl rfl rfl rfl (g_ld rfl rfl rfl (g_ald rfl rfl rfl ?_ (g_if rfl rfl (fun zc28 => (g_rv rfl rfl ?_)) (fun zc28 => ?_)))))))
    · exact vp_in_nI (show c < 4 by omega) (by decide)
    · exact ⟨rfl, hG⟩
    · rw [rP] at zc28
      exact absurd (Int32.le_refl _) zc28
  | r + 1, k, S, px, qx, e, hpq, hG => by
    have h4 := hW.1
    obtain ⟨c', r', e1, e2, hc⟩ := ht.ne
    have hP2 := hW.2.1 c
    have hkP : k < bP B c := by omega
    have rP : ∀ T, Am [18, 19, 20] [31] S0 T → T.1 6 (nI c).toNatClampNeg = nI (bP B c) := fun T hT => by rw [nI_clamp (by omega), hT.1 6 (by decide) (by decide)]; exact hB.2.1 c (by omega)
    have rV : ∀ T, Am [18, 19, 20] [31] S0 T → T.1 14 (2 * nI c + nI k).toNatClampNeg = nI (V (2 * c + k)) := fun T hT => by rw [e2m, nI_clamp (by omega), hT.1 14 (by decide) (by decide)]; exact h14 _ (by omega)
    have inV : vp_in (2 * nI c + nI k) 8 := by rw [e2m]; exact vp_in_nI (show 2 * c + k < 8 by omega) (by decide)
    obtain ⟨rfl, rfl⟩ := hpq hkP
    obtain ⟨ct1, tl1, at1⟩ := arg_pos hW ht (p := k) (by rw [hat]; exact hkP)
    obtain ⟨cu1, ul1, au1⟩ := arg_pos hW hu (p := k) (by rw [hau]; exact hkP)
    obtain ⟨q1, q2⟩ := at1 _ a h1
    obtain ⟨q3, q4⟩ := au1 _ b h2
    have ea : a + 1 + (if k = 0 then 0 else skipL (bP B) 1 t.tail) = a + adr (bP B) t k := by unfold adr; omega
    have eb : b + 1 + (if k = 0 then 0 else skipL (bP B) 1 u.tail) = b + adr (bP B) u k := by unfold adr; omega
    rw [ea] at q1
    rw [eb] at q3
    have la : a + adr (bP B) t k + (arg (bP B) t k).length ≤ n := by unfold adr; omega
    have lb : b + adr (bP B) u k + (arg (bP B) u k).length ≤ n := by unfold adr; omega
    have hlen := sbK_len (P := bP B) (V := V) (t := t) (u := u) (c := c) k
    have hv := hV (2 * c + k)
    -- the end of a turn
    have tail : ∀ T, GsX S0 T i n (sbK (bP B) V t u c (k + 1)) → Go (l, wM, D, ad, cA) 1 m_M_addGoals (fun v S' => v = .null ∧ GsX S0 S' i n (sbK (bP B) V t u c (bP B c))) 81 [some (.ref 0), some (.int (nI a)), some (.int (nI b)), some (.int (nI c)), some (.int (nI (a + adr (bP B) t k))), some (.int (nI (b + adr (bP B) u k))), some (.int (nI k))] [] T := by
      intro T hT
      have hB2 : BkM T B := hB.am hT.1
      have p17 : T.1 17 = S0.1 17 := hT.1.1 17 (by decide) (by decide)
      have z1 : At (T.1 17) (a + adr (bP B) t k) ((arg (bP B) t k).map enc) := by rw [ct_enc h4 ct1.1, p17]; exact q1
      have z2 : At (T.1 17) (b + adr (bP B) u k) ((arg (bP B) u k).map enc) := by rw [ct_enc h4 cu1.1, p17]; exact q3
      refine (g_ld rfl rfl rfl (g_ld rfl rfl rfl (g_ld rfl rfl rfl (g_gr rfl rfl rfl rfl rfl (g_ld rfl rfl rfl (g_cv rfl (s_lengthOf (N := 4000) (c := 0) hB2 hW rfl rfl (by decide) ct1.2.1 ct1.2.2 (ct_sg ct1 0) (by omega) z1 rfl) (by omega) rfl rfl rfl rfl rfl rfl rfl rfl rfl (z_k1 ?_)))))))
      refine (g_bin rfl rfl (g_st rfl rfl rfl rfl rfl (g_ld rfl rfl rfl (g_ld rfl rfl rfl (g_ld rfl rfl rfl (g_gr rfl rfl rfl rfl rfl (g_ld rfl rfl rfl (g_cv rfl (s_lengthOf (N := 4000) (c := 0) hB2 hW rfl rfl (by decide) cu1.2.1 cu1.2.2 (ct_sg cu1 0) (by omega) z2 rfl) (by omega) rfl rfl rfl rfl rfl rfl rfl rfl rfl (z_k1 ?_)))))))))
      refine (g_bin rfl rfl (g_st rfl rfl rfl rfl rfl (g_inc rfl rfl rfl rfl (g_go rfl ?_))))
      rw [nI_add, nI_add]
      have := lp_ag hB hW hV h14 ht hu hat hau h1 h2 ha hb hn h27 hi r (k + 1) T (nI (a + adr (bP B) t k + (arg (bP B) t k).length)) (nI (b + adr (bP B) u k + (arg (bP B) u k).length)) (by omega) (fun hk1 => by
        have k0 : k = 0 := by omega
        subst k0
        rw [arg0_len, arg0_len, adr_0, adr_0, Nat.zero_add, adr_1, adr_1, Nat.add_assoc, Nat.add_assoc]
        exact ⟨rfl, rfl⟩) hT
      rw [nI_succ k] at this
      exact this
    -- the second bit
    have mid : ∀ T L, GsX S0 T i n L → L.length ≤ 3 → L ++ (if V (2 * c + k) / 2 % 2 = 1 then [(arg (bP B) u k, arg (bP B) t k)] else []) = sbK (bP B) V t u c (k + 1) → Go (l, wM, D, ad, cA) 1 m_M_addGoals (fun v S' => v = .null ∧ GsX S0 S' i n (sbK (bP B) V t u c (bP B c))) 56 [some (.ref 0), some (.int (nI a)), some (.int (nI b)), some (.int (nI c)), some (.int (nI (a + adr (bP B) t k))), some (.int (nI (b + adr (bP B) u k))), some (.int (nI k))] [] T := by
      intro T L hT hL hEq
      refine (g_ld rfl rfl rfl (g_gr rfl rfl rfl rfl rfl (g_c rfl rfl (g_ld rfl rfl rfl (g_bin rfl rfl (g_ld rfl rfl rfl (g_bin rfl rfl (g_ald rfl rfl rfl ?_ (g_c rfl rfl (g_bin rfl rfl (g_c rfl rfl (g_if rfl rfl (fun zc70 => ?_) (fun zc70 => ?_)))))))))))))
      · exact inV
      · rw [rV T hT.1] at zc70
        have hb2 : ¬ V (2 * c + k) / 2 % 2 = 1 := fun g => zc70 ((bit2 _ hv).mpr g)
        rw [if_neg hb2, List.append_nil] at hEq
        rw [hEq] at hT
        exact tail T hT
      · rw [rV T hT.1] at zc70
        have hb2 : V (2 * c + k) / 2 % 2 = 1 := (bit2 _ hv).mp (Decidable.not_not.mp zc70)
        rw [if_pos hb2] at hEq
        refine (g_ld rfl rfl rfl (g_ld rfl rfl rfl (g_ld rfl rfl rfl (g_cv rfl (s_goal (i := i + L.length) (by omega) hT.2.1) (by omega) rfl rfl rfl rfl rfl rfl rfl rfl rfl (fun zv78 zS78 zh78 => ?_)))))
        obtain ⟨rfl, rfl⟩ := zh78
        have := gs_push hT h27 q3 q1 lb la
        rw [hEq] at this
        exact tail _ this
    refine (g_ld rfl rfl rfl (g_ld rfl rfl rfl (g_gr rfl rfl rfl rfl rfl (g_ld rfl rfl rfl (g_ald rfl rfl rfl ?_ (g_if rfl rfl (fun zc28 => (g_rv rfl rfl ?_)) (fun zc28 => (g_ld rfl rfl rfl (g_gr rfl rfl rfl rfl rfl (g_c rfl rfl (g_ld rfl rfl rfl (g_bin rfl rfl (g_ld rfl rfl rfl (g_bin rfl rfl (g_ald rfl rfl rfl ?_ (g_c rfl rfl (g_bin rfl rfl (g_c rfl rfl (g_if rfl rfl (fun zc45 => ?_) (fun zc45 => ?_))))))))))))))))))))
    · exact vp_in_nI (show c < 4 by omega) (by decide)
    · rw [rP S hG.1] at zc28
      have := le_n zc28
      omega
    · exact inV
    · rw [rV S hG.1] at zc45
      have hb1 : ¬ V (2 * c + k) % 2 = 1 := fun g => zc45 ((bit1 _ hv).mpr g)
      refine mid S (sbK (bP B) V t u c k) hG (by omega) ?_
      rw [sbK, if_neg hb1, List.append_nil]
    · rw [rV S hG.1] at zc45
      have hb1 : V (2 * c + k) % 2 = 1 := (bit1 _ hv).mp (Decidable.not_not.mp zc45)
      refine (g_ld rfl rfl rfl (g_ld rfl rfl rfl (g_ld rfl rfl rfl (g_cv rfl (s_goal (i := i + (sbK (bP B) V t u c k).length) (by omega) hG.2.1) (by omega) rfl rfl rfl rfl rfl rfl rfl rfl rfl (fun zv53 zS53 zh53 => ?_)))))
      obtain ⟨rfl, rfl⟩ := zh53
      have := gs_push hG h27 q1 q3 la lb
      refine mid _ (sbK (bP B) V t u c k ++ [(arg (bP B) t k, arg (bP B) u k)]) this (by rw [List.length_append]; simp; omega) ?_
      rw [sbK, if_pos hb1]
theorem s_addGoals (hB : BkM S B) (hW : WfB B) (hV : ∀ j, V j < 4) (h14 : ∀ j, j < 8 → S.1 14 j = nI (V j)) (ht : CT B t) (hu : CT B u) (hat : ahd t = c) (hau : ahd u = c) (h1 : At (S.1 17) a t) (h2 : At (S.1 17) b u) (ha : a + t.length ≤ n) (hb : b + u.length ≤ n) (hn : n ≤ 4000) (h27 : S.1 0 27 = nI n) (h31 : S.1 0 31 = nI i) (hi : i + 4 ≤ 400) : Sp (l, wM, D, ad, cA) 1 m_M_addGoals [.ref 0, .int (nI a), .int (nI b)] S (fun v S' => v = .null ∧ GsX S S' i n (sbK (bP B) V t u c (bP B c))) := by
  have h4 := hW.1
  obtain ⟨c', r', e1, e2, hc⟩ := ht.ne
  have hlt : 0 < t.length := by rw [e1]; simp
  have r17 : S.1 17 (nI a).toNatClampNeg = nI c := by
    rw [nI_clamp (by omega)]
    have := h1 0 hlt
    rw [Nat.add_zero] at this
    rw [this, ← hat, e1]
    rfl
  refine Sp.of dk_M_addGoals ok_M_addGoals rfl (g_ld rfl rfl rfl (g_gr rfl rfl rfl rfl rfl (g_ld rfl rfl rfl (g_ald rfl rfl rfl ?_ (g_st rfl rfl rfl rfl rfl (g_ld rfl rfl rfl (g_c rfl rfl (g_bin rfl rfl (g_st rfl rfl rfl rfl rfl (g_ld rfl rfl rfl (g_c rfl rfl (g_bin rfl rfl (g_st rfl rfl rfl rfl rfl (g_c rfl rfl (g_st rfl rfl rfl rfl rfl ?_)))))))))))))))
  · exact vp_in_nI (show a < 4000 by omega) (by decide)
  · rw [r17, ← nI_succ a, ← nI_succ b]
    exact lp_ag hB hW hV h14 ht hu hat hau h1 h2 ha hb hn h27 hi (bP B c) 0 S _ _ (by omega) (fun _ => ⟨rfl, rfl⟩) ⟨Am.rf, by rw [h31]; rfl, fun j hj => absurd hj (Nat.not_lt_zero _), fun j _ => ⟨rfl, rfl, rfl⟩⟩
end
