/-! drawArgument, drawType, run -/
theorem dArg_sp {B : Bk} {s : Nat} : (dArg B s).1.length = 1 + bP B (dC B s) ∧ (dArg B s).2 < 2147483648 := by
  have := dPl_sp (B := B) (bP B (dC B s)) (nx s) (nx_lt s)
  unfold dArg
  exact ⟨by simp [this.1]; omega, this.2⟩
theorem dArgs_sp {B : Bk} (hW : WfB B) : ∀ (m s : Nat), s < 2147483648 → (dArgs B m s).1.length ≤ 3 * m ∧ (dArgs B m s).2 < 2147483648
  | 0, s, h => ⟨by simp [dArgs], h⟩
  | m + 1, s, h => by
    have h1 := dArg_sp (B := B) (s := s)
    have h2 := dArgs_sp hW m (dArg B s).2 h1.2
    have h3 := hW.2.1 (dC B s)
    rw [dArgs]
    refine ⟨?_, h2.2⟩
    simp only [List.length_append]
    omega
theorem finb_of {P : Nat → Nat} : ∀ (l m : List Nat) (a b : Nat), finb P a l = true → skipL P a l = l.length → finb P b m = true → skipL P b m = m.length → finb P (a + b) (l ++ m) = true ∧ skipL P (a + b) (l ++ m) = (l ++ m).length
  | l, m, 0, b, _, h2, h3, h4 => by
    rw [skipL] at h2
    have : l = [] := List.length_eq_zero_iff.mp h2.symm
    subst this
    simpa using ⟨h3, h4⟩
  | [], m, a + 1, b, h1, _, _, _ => by simp [finb] at h1
  | c :: l, m, a + 1, b, h1, h2, h3, h4 => by
    rw [finb] at h1
    rw [skipL, List.length_cons] at h2
    have := finb_of l m (a + P c) b h1 (by omega) h3 h4
    rw [show a + 1 + b = (a + b) + 1 by omega, List.cons_append, finb, skipL, show a + b + P c = a + P c + b by omega, List.length_cons]
    exact ⟨this.1, by rw [this.2]; omega⟩
theorem dPl_ok {B : Bk} (hW : WfB B) (hp : 0 < (pls B).length) : ∀ (m s : Nat), (∀ y ∈ (dPl B m s).1, y < bN B) ∧ finb (bP B) m (dPl B m s).1 = true ∧ skipL (bP B) m (dPl B m s).1 = (dPl B m s).1.length
  | 0, s => ⟨by simp [dPl], by simp [finb], by simp [skipL, dPl]⟩
  | m + 1, s => by
    obtain ⟨a1, a2, a3⟩ := dPl_ok hW hp m (nx s)
    have hlt : nx s / 65536 % (pls B).length < (pls B).length := Nat.mod_lt _ hp
    have hm : (pls B).getD (nx s / 65536 % (pls B).length) 0 ∈ pls B := by
      rw [List.getD_eq_getElem?_getD, List.getElem?_eq_getElem hlt]
      exact List.getElem_mem hlt
    obtain ⟨b1, b2⟩ := pls_mem hm
    rw [dPl]
    refine ⟨fun y hy => ?_, ?_, ?_⟩
    · rcases List.mem_cons.mp hy with rfl | hy
      · exact b1
      · exact a1 y hy
    · rw [finb, b2]; exact a2
    · rw [skipL, b2, Nat.add_zero, a3, List.length_cons]; omega
theorem dArg_ok {B : Bk} (hW : WfB B) (hn : 0 < bN B) (hp : 0 < (pls B).length) (s : Nat) : CT B (dArg B s).1 := by
  obtain ⟨a1, a2, a3⟩ := dPl_ok hW hp (bP B (dC B s)) (nx s)
  have hc : dC B s < bN B := Nat.mod_lt _ hn
  unfold dArg
  refine ⟨fun y hy => ?_, ?_, ?_⟩
  · rcases List.mem_cons.mp hy with rfl | hy
    · exact hc
    · exact a1 y hy
  · rw [finb, Nat.zero_add]; exact a2
  · rw [skipL, Nat.zero_add, a3, List.length_cons]; omega
theorem dArgs_ok {B : Bk} (hW : WfB B) (hn : 0 < bN B) (hp : 0 < (pls B).length) : ∀ (m s : Nat), (∀ y ∈ (dArgs B m s).1, y < bN B) ∧ finb (bP B) m (dArgs B m s).1 = true ∧ skipL (bP B) m (dArgs B m s).1 = (dArgs B m s).1.length
  | 0, s => ⟨by simp [dArgs], by simp [finb], by simp [skipL, dArgs]⟩
  | m + 1, s => by
    obtain ⟨a1, a2, a3⟩ := dArgs_ok hW hn hp m (dArg B s).2
    obtain ⟨b1, b2, b3⟩ := dArg_ok hW hn hp s
    have := finb_of (dArg B s).1 (dArgs B m (dArg B s).2).1 1 m b2 b3 a2 a3
    rw [dArgs, show m + 1 = 1 + m by omega]
    refine ⟨fun y hy => ?_, this.1, this.2⟩
    rcases List.mem_append.mp hy with hy | hy
    · exact b1 y hy
    · exact a1 y hy
theorem dTy_ok {B : Bk} (hW : WfB B) (hn : 0 < bN B) (hp : 0 < (pls B).length) (s : Nat) : CT B (dTy B s).1 ∧ (dTy B s).1.length ≤ 7 ∧ (dTy B s).2 < 2147483648 := by
  obtain ⟨a1, a2, a3⟩ := dArgs_ok hW hn hp (bP B (dC B s)) (nx s)
  have hc : dC B s < bN B := Nat.mod_lt _ hn
  have h2 := dArgs_sp hW (bP B (dC B s)) (nx s) (nx_lt s)
  have h3 := hW.2.1 (dC B s)
  unfold dTy
  refine ⟨⟨fun y hy => ?_, ?_, ?_⟩, by simp only [List.length_cons]; omega, h2.2⟩
  · rcases List.mem_cons.mp hy with rfl | hy
    · exact hc
    · exact a1 y hy
  · rw [finb, Nat.zero_add]; exact a2
  · rw [skipL, Nat.zero_add, a3, List.length_cons]; omega
section
variable {l : Launch} {D : va_G} {ad : Nat → Nat} {cA : ClassId} {d r q n : Nat} {x z : Int32} {S S0 : zS} {B : Bk} {V kd : Nat → Nat} {sl : Nat → List Nat}
theorem pls_len (hW : WfB B) : (pls B).length ≤ 4 := by
  have h1 : (pls B).length ≤ bN B := by unfold pls; have := List.length_filter_le (isP B) (List.range' 0 (bN B)); simpa using this
  have := hW.1
  omega
/-- what drawing needs and keeps -/
def DwX (S : zS) (B : Bk) (s : Nat) (b : List Nat) : Prop := BkX S 3 B ∧ S.2 42 = lN s ∧ s < 2147483648 ∧ RowR S 43 b
def dwPost (S0 : zS) (B : Bk) (s : Nat) (b : List Nat) : Value → zS → Prop := fun v S' => v = .null ∧ DwX S' B s b ∧ Al [43, 44] S0 S'
theorem dw_draw {s y : Nat} {b : List Nat} (h : DwX S B s b) : DwX (z_ul S 42 (lN (nx s))) B (nx s) b := ⟨h.1, by simp [z_ul], nx_lt s, h.2.2.2⟩
theorem dw_add {s y : Nat} {b : List Nat} (h : DwX S B s b) (hb : b.length < 15) : DwX (z_ui (z_ui S 44 b.length (nI y)) 43 1 (nI (b.length + 1))) B s (b ++ [y]) := ⟨h.1.ag (fun k h3 h9 => by rw [ui_ne (by omega), ui_ne (by omega)]), h.2.1, h.2.2.1, RowR.push (r := 43) h.2.2.2 hb⟩
theorem lp_drawArg (hW : WfB B) (hn : 0 < bN B) (hp : 0 < (pls B).length) {c : Nat} (hc : c < bN B) : ∀ (k i s : Nat) (b : List Nat) (S : zS), i + k = bP B c → b.length + k ≤ 15 → DwX S B s b → Al [43, 44] S0 S → Go (l, wX, D, ad, cA) 2 m_Draws_drawArgument (dwPost S0 B (dPl B k s).2 (b ++ (dPl B k s).1)) 23 [some (.ref 42), some (.int (nI c)), some (.int (nI i))] [] S := by
  intro k
  have hn4 := hW.1
  have hpl4 := pls_len hW
  have hpl : (pls B).length < 2 ^ 31 := by omega
  have hP2 := hW.2.1 c
  induction k with
  | zero =>
    intro i s b S hi hb hd hA
    have ep : f_par S 3 (nI c) = nI (bP B c) := bk_par hd.1 hW (by omega)
    refine (g_ld rfl rfl rfl (g_ld rfl rfl rfl (g_gr rfl rfl rfl rfl rfl (g_ld rfl rfl rfl (g_cv rfl (s_parametersOf (by decide)) (by omega) rfl rfl rfl rfl rfl rfl rfl rfl rfl (z_k1 (g_if rfl rfl (fun zc32 => (g_rv rfl rfl ?_)) (fun zc32 => ?_))))))))
    · refine ⟨rfl, ?_, hA⟩
      rw [dPl, List.append_nil]
      exact hd
    · rw [ep] at zc32
      have := nle_n zc32
      omega
  | succ k ih =>
    intro i s b S hi hb hd hA
    have ep : f_par S 3 (nI c) = nI (bP B c) := bk_par hd.1 hW (by omega)
    refine (g_ld rfl rfl rfl (g_ld rfl rfl rfl (g_gr rfl rfl rfl rfl rfl (g_ld rfl rfl rfl (g_cv rfl (s_parametersOf (by decide)) (by omega) rfl rfl rfl rfl rfl rfl rfl rfl rfl (z_k1 (g_if rfl rfl (fun zc32 => (g_rv rfl rfl ?_)) (fun zc32 => ?_))))))))
    · rw [ep] at zc32
      have := le_n zc32
      omega
    · refine (g_ld rfl rfl rfl (g_gr rfl rfl rfl rfl rfl (g_ld rfl rfl rfl (g_gr rfl rfl rfl rfl rfl (g_ld rfl rfl rfl (g_ld rfl rfl rfl (g_gr rfl rfl rfl rfl rfl (g_cv rfl (s_howManyPlain hn4 hd.1.1) (by omega) rfl rfl rfl rfl rfl rfl rfl rfl rfl (z_k1 (g_cv rfl (s_draw hd.2.2.1 hd.2.1 (k := (pls B).length) hp hpl (pl_sum hd.1 hW (bN B) hn4)) (by omega) rfl rfl rfl rfl rfl rfl rfl rfl rfl (fun zv51 zS51 zh51 => ?_)))))))))))
      obtain ⟨rfl, rfl⟩ := zh51
      have hd2 := dw_draw (y := 0) hd
      have hd := hd2
      refine (g_cv rfl (s_plainClass (S := z_ul S 42 (lN (nx s))) hn4 hd.1.1) (by omega) rfl rfl rfl rfl rfl rfl rfl rfl rfl (z_k1 (g_cv rfl (s_radd (Or.inr rfl) (n := b.length) (by omega) hd.2.2.2.1) (by omega) rfl rfl rfl rfl rfl rfl rfl rfl rfl (fun zv57 zS57 zh57 => ?_))))
      rw [plc_eq hd.1 hW (bN B) 0 _ (by omega) (by have := Nat.mod_lt (nx s / 65536) hp; omega)] at zh57
      rcases zh57 with ⟨g1, -, -⟩ | ⟨g1, rfl, rfl⟩
      · omega
      · refine (g_pop rfl rfl (g_inc rfl rfl rfl rfl (g_go rfl ?_)))
        have := ih (i + 1) (nx s) (b ++ [(pls B).getD (nx s / 65536 % (pls B).length) 0]) _ (by omega) (by simp; omega) (dw_add hd (by omega)) ((hA.ul.ui (by decide)).ui (by decide))
        rw [nI_succ i, List.append_assoc] at this
        exact this
theorem s_drawArg (hW : WfB B) (hn : 0 < bN B) (hp : 0 < (pls B).length) {s : Nat} {b : List Nat} (hb : b.length + 3 ≤ 15) (hd : DwX S B s b) : Sp (l, wX, D, ad, cA) 2 m_Draws_drawArgument [.ref 42] S (dwPost S B (dArg B s).2 (b ++ (dArg B s).1)) := by
  have hn4 := hW.1
  refine Sp.of dk_Draws_drawArgument ok_Draws_drawArgument rfl (g_ld rfl rfl rfl (g_ld rfl rfl rfl (g_gr rfl rfl rfl rfl rfl (g_gi rfl rfl rfl rfl rfl (g_cv rfl (s_draw hd.2.2.1 hd.2.1 (k := bN B) hn (by omega) hd.1.1) (by omega) rfl rfl rfl rfl rfl rfl rfl rfl rfl (fun zv8 zS8 zh8 => ?_))))))
  obtain ⟨rfl, rfl⟩ := zh8
  have hd2 := dw_draw (y := 0) hd
  have hd := hd2
  refine (g_st rfl rfl rfl rfl rfl (g_ld rfl rfl rfl (g_gr rfl rfl rfl rfl rfl (g_ld rfl rfl rfl (g_cv rfl (s_radd (Or.inr rfl) (n := b.length) (by omega) hd.2.2.2.1) (by omega) rfl rfl rfl rfl rfl rfl rfl rfl rfl (fun zv17 zS17 zh17 => ?_))))))
  rcases zh17 with ⟨g1, -, -⟩ | ⟨g1, rfl, rfl⟩
  · omega
  · refine (g_pop rfl rfl (g_c rfl rfl (g_st rfl rfl rfl rfl rfl ?_)))
    have hc : dC B s < bN B := Nat.mod_lt _ hn
    have hP := hW.2.1 (dC B s)
    have := lp_drawArg (l := l) (D := D) (ad := ad) (cA := cA) (S0 := S) hW hn hp hc (bP B (dC B s)) 0 (nx s) (b ++ [dC B s]) _ (by omega) (by simp; omega) (dw_add hd (by omega)) ((Al.rf.ul.ui (by decide)).ui (by decide))
    rw [List.append_assoc] at this
    exact this
theorem lp_drawType (hW : WfB B) (hn : 0 < bN B) (hp : 0 < (pls B).length) {c : Nat} (hc : c < bN B) : ∀ (k i s : Nat) (b : List Nat) (S : zS), i + k = bP B c → b.length + 3 * k ≤ 15 → DwX S B s b → Al [43, 44] S0 S → Go (l, wX, D, ad, cA) 3 m_Draws_drawType (dwPost S0 B (dArgs B k s).2 (b ++ (dArgs B k s).1)) 31 [some (.ref 42), some (.int (nI c)), some (.int (nI i))] [] S := by
  intro k
  have hn4 := hW.1
  have hP2 := hW.2.1 c
  induction k with
  | zero =>
    intro i s b S hi hb hd hA
    have ep : f_par S 3 (nI c) = nI (bP B c) := bk_par hd.1 hW (by omega)
    refine (g_ld rfl rfl rfl (g_ld rfl rfl rfl (g_gr rfl rfl rfl rfl rfl (g_ld rfl rfl rfl (g_cv rfl (s_parametersOf (by decide)) (by omega) rfl rfl rfl rfl rfl rfl rfl rfl rfl (z_k1 (g_if rfl rfl (fun zc40 => (g_rv rfl rfl ?_)) (fun zc40 => ?_))))))))
    · refine ⟨rfl, ?_, hA⟩
      rw [dArgs, List.append_nil]
      exact hd
    · rw [ep] at zc40
      have := nle_n zc40
      omega
  | succ k ih =>
    intro i s b S hi hb hd hA
    have ep : f_par S 3 (nI c) = nI (bP B c) := bk_par hd.1 hW (by omega)
    refine (g_ld rfl rfl rfl (g_ld rfl rfl rfl (g_gr rfl rfl rfl rfl rfl (g_ld rfl rfl rfl (g_cv rfl (s_parametersOf (by decide)) (by omega) rfl rfl rfl rfl rfl rfl rfl rfl rfl (z_k1 (g_if rfl rfl (fun zc40 => (g_rv rfl rfl ?_)) (fun zc40 => ?_))))))))
    · rw [ep] at zc40
      have := le_n zc40
      omega
    · refine (g_ld rfl rfl rfl (g_cv rfl (s_drawArg hW hn hp (b := b) (by omega) hd) (by omega) rfl rfl rfl rfl rfl rfl rfl rfl rfl (fun zv44 zS44 zh44 => ?_)))
      obtain ⟨rfl, h1, h2⟩ := zh44
      refine (g_inc rfl rfl rfl rfl (g_go rfl ?_))
      have hl := (dArg_sp (B := B) (s := s)).1
      have hP3 := hW.2.1 (dC B s)
      have := ih (i + 1) (dArg B s).2 (b ++ (dArg B s).1) _ (by omega) (by rw [List.length_append]; omega) h1 (hA.tr h2)
      rw [nI_succ i, List.append_assoc] at this
      exact this
theorem s_drawType (hW : WfB B) (hn : 0 < bN B) (hp : 0 < (pls B).length) {s : Nat} (hB : BkX S 3 B) (hs : S.2 42 = lN s) (hs2 : s < 2147483648) : Sp (l, wX, D, ad, cA) 3 m_Draws_drawType [.ref 42] S (dwPost S B (dTy B s).2 (dTy B s).1) := by
  have hn4 := hW.1
  have hd0 : DwX (z_ui S 43 1 0) B s [] := ⟨hB.ag (fun k h3 h9 => ui_ne (by omega)), hs, hs2, by rw [ui_at, pk_us]; rfl, by simp, At.nil⟩
  refine Sp.of dk_Draws_drawType ok_Draws_drawType rfl (g_ld rfl rfl rfl (g_gr rfl rfl rfl rfl rfl (g_c rfl rfl (g_pi rfl rfl rfl rfl rfl rfl rfl (g_ld rfl rfl rfl (g_ld rfl rfl rfl (g_gr rfl rfl rfl rfl rfl (g_gi rfl rfl rfl rfl rfl (g_cv rfl (s_draw hd0.2.2.1 hd0.2.1 (k := bN B) hn (by omega) hd0.1.1) (by omega) rfl rfl rfl rfl rfl rfl rfl rfl rfl (fun zv16 zS16 zh16 => ?_))))))))))
  obtain ⟨rfl, rfl⟩ := zh16
  have hd := dw_draw (y := 0) hd0
  refine (g_st rfl rfl rfl rfl rfl (g_ld rfl rfl rfl (g_gr rfl rfl rfl rfl rfl (g_ld rfl rfl rfl (g_cv rfl (s_radd (Or.inr rfl) (n := 0) (by omega) hd.2.2.2.1) (by omega) rfl rfl rfl rfl rfl rfl rfl rfl rfl (fun zv25 zS25 zh25 => ?_))))))
  rcases zh25 with ⟨g1, -, -⟩ | ⟨g1, rfl, rfl⟩
  · omega
  · refine (g_pop rfl rfl (g_c rfl rfl (g_st rfl rfl rfl rfl rfl ?_)))
    have hc : dC B s < bN B := Nat.mod_lt _ hn
    have hP := hW.2.1 (dC B s)
    exact lp_drawType (l := l) (D := D) (ad := ad) (cA := cA) (S0 := S) hW hn hp hc (bP B (dC B s)) 0 (nx s) [dC B s] _ (by omega) (by simp; omega) (dw_add hd (by simp)) (((Al.rf.ui (by decide)).ul.ui (by decide)).ui (by decide))
end
