/-! takeSlot, takeType, putIntoSlot -/
def SlX (S : zS) (sl : Nat → List Nat) : Prop := ∀ s, s < 8 → S.1 20 s = nI (sl s).length ∧ (sl s).length ≤ 15 ∧ At (S.1 21) (15 * s) (sl s)
theorem SlX.ag {S S' : zS} {sl : Nat → List Nat} (h : SlX S sl) (h1 : S'.1 20 = S.1 20) (h2 : S'.1 21 = S.1 21) : SlX S' sl := fun s hs => by rw [h1, h2]; exact h s hs
def sub : List Nat → List Nat → List Nat → List Nat
  | [], _, _ => []
  | s :: l, f, g => put s f g ++ sub l f g
section
variable {l : Launch} {D : va_G} {ad : Nat → Nat} {cA : ClassId} {d r q n : Nat} {x z : Int32} {S S0 : zS} {B : Bk} {V kd : Nat → Nat} {sl : Nat → List Nat}
theorem RowR.ag {S S' : zS} {t : List Nat} (h : RowR S r t) (h1 : S'.1 r = S.1 r) (h2 : S'.1 (r + 1) = S.1 (r + 1)) : RowR S' r t := ⟨by rw [h1]; exact h.1, h.2.1, by rw [h2]; exact h.2.2⟩
theorem RowR.nil {S : zS} : RowR (z_ui S 38 1 0) 38 [] := ⟨by rw [ui_at, pk_us]; rfl, by simp, At.nil⟩
theorem s_addSignsE {b src : List Nat} {a : Nat} {xa xc : Int32} (hs : At (S.1 21) a src) (hb : a + src.length ≤ 120) (hR : RowR S 38 b) (hxa : xa = nI a) (hxc : xc = nI (a + src.length)) : Sp (l, wX, D, ad, cA) 1 m_Row_addSigns [.ref 38, .ref 18, .int xa, .int xc] S (addPost S b src) := by
  subst hxa
  subst hxc
  exact s_addSigns hs hb rfl hR
theorem e15 (s i : Nat) : 15 * nI s + nI i = nI (15 * s + i) := by rw [show (15 : Int32) = nI 15 from rfl, pk_mul, nI_add]
theorem e15' (s : Nat) : 15 * nI s = nI (15 * s) := by rw [show (15 : Int32) = nI 15 from rfl, pk_mul]
theorem siz_eq (h : SlX S sl) {s : Nat} (hs : s < 8) : f_siz S 18 (nI s) = nI (sl s).length := by
  unfold f_siz
  rw [if_pos (in8 hs), nI_clamp (by omega)]
  exact (h s hs).1
theorem s_takeSlot (hSl : SlX S sl) {s : Nat} (hs : s < 8) (hx : x = nI s) : Sp (l, wX, D, ad, cA) 2 m_Row_takeSlot [.ref 38, .ref 18, .int x] S (fun v S' => v = .null ∧ RowR S' 38 (sl s) ∧ Ag [38, 39] S S') := by
  subst hx
  obtain ⟨h1, h2, h3⟩ := hSl s hs
  have hSl2 : SlX (z_ui S 38 1 0) sl := hSl.ag (ui_ne (by decide)) (ui_ne (by decide))
  have hAt : At ((z_ui S 38 1 0).1 21) (15 * s) (sl s) := (hSl2 s hs).2.2
  have hxc : 15 * nI s + f_siz (z_ui S 38 1 0) 18 (nI s) = nI (15 * s + (sl s).length) := by rw [siz_eq hSl2 hs, e15]
  refine Sp.of dk_Row_takeSlot ok_Row_takeSlot rfl (g_ld rfl rfl rfl (g_c rfl rfl (g_pi rfl rfl rfl rfl rfl rfl rfl (g_ld rfl rfl rfl (g_ld rfl rfl rfl (g_c rfl rfl (g_ld rfl rfl rfl (g_bin rfl rfl (g_c rfl rfl (g_ld rfl rfl rfl (g_bin rfl rfl (g_ld rfl rfl rfl (g_ld rfl rfl rfl (g_cv rfl (s_sizeOf (by decide)) (by omega) rfl rfl rfl rfl rfl rfl rfl rfl rfl (z_k1 (g_bin rfl rfl (g_cv rfl (s_addSignsE (S := z_ui S 38 1 0) (b := []) (src := sl s) (a := 15 * s) hAt (by omega) RowR.nil (e15' s) hxc) (by omega) rfl rfl rfl rfl rfl rfl rfl rfl rfl (fun zv21 zS21 zh21 => ?_))))))))))))))))))
  obtain ⟨h, hA⟩ := zh21
  have hA2 : Ag [38, 39] S zS21 := (Ag.rf.ui (by decide)).tr hA
  rcases h with ⟨g1, rfl, g3⟩ | ⟨g1, -⟩
  · refine (g_pop rfl rfl (g_rv rfl rfl ?_))
    exact ⟨rfl, g3, hA2⟩
  · simp at g1; omega
def tyPost (S0 : zS) (R : List Nat) : Value → zS → Prop := fun v S' => ((R.length ≤ 15 ∧ v = .int 1 ∧ RowR S' 38 R) ∨ (15 < R.length ∧ v = .int 0)) ∧ Ag [38, 39] S0 S'
theorem lp_tt0 {R : List Nat} {x2 x4 x5 x6 x7 x9 : Int32} {w : Option Value} (h : 15 < R.length) (hA : Ag [38, 39] S0 S) : Go (l, wX, D, ad, cA) 2 m_Row_takeType (tyPost S0 R) 48 [some (.ref 38), some (.ref 3), some (.int x2), some (.ref 18), some (.int x4), some (.int x5), some (.int x6), some (.int x7), some (.int 0), some (.int x9), w] [] S := by
  refine (g_ld rfl rfl rfl (g_ld rfl rfl rfl (g_ld rfl rfl rfl (g_cv rfl (s_endOf (by decide)) (by omega) rfl rfl rfl rfl rfl rfl rfl rfl rfl (z_k1 (g_if rfl rfl (fun zc55 => (g_ld rfl rfl rfl (g_ri rfl rfl ?_ ?_))) (fun zc55 => (g_ld rfl rfl rfl (g_if rfl rfl (fun zc60 => (g_ld rfl rfl rfl (g_ri rfl rfl ?_ ?_))) (fun zc60 => ?_))))))))))
  · rfl
  · exact ⟨Or.inr ⟨h, rfl⟩, hA⟩
  · rfl
  · exact ⟨Or.inr ⟨h, rfl⟩, hA⟩
  · exact absurd rfl zc60
theorem lp_takeType {p st s first second endd : Nat} {A1 A2 : List Nat} (h2 : f_end S0 3 (nI p) = nI (st + (bT B p).length)) (h3 : st + (bT B p).length ≤ 90) (h4 : ∀ i, i < (bT B p).length → f_sgn S0 3 (nI (st + i)) = nI ((bT B p).getD i 0)) (h6 : ∀ x ∈ bT B p, x < 6) (hA1 : 4 ∈ bT B p → second = first + A1.length ∧ At (S0.1 21) first A1 ∧ first + A1.length ≤ 120) (hA2 : 5 ∈ bT B p → endd = second + A2.length ∧ At (S0.1 21) second A2 ∧ second + A2.length ≤ 120) : ∀ (m : List Nat) (i : Nat) (b : List Nat) (S : zS) (w : Option Value), (bT B p).drop i = m → i + m.length = (bT B p).length → RowR S 38 b → Ag [38, 39] S0 S → Go (l, wX, D, ad, cA) 2 m_Row_takeType (tyPost S0 (b ++ sub m A1 A2)) 48 [some (.ref 38), some (.ref 3), some (.int (nI p)), some (.ref 18), some (.int (nI s)), some (.int (nI first)), some (.int (nI second)), some (.int (nI endd)), some (.int 1), some (.int (nI (st + i))), w] [] S := by
  intro m
  induction m with
  | nil =>
    intro i b S w hm hi hR hA
    have e1 : f_end S 3 (nI p) = nI (st + (bT B p).length) := by rw [← h2]; unfold f_end; rw [hA.1 _ (by decide)]
    simp only [List.length_nil, Nat.add_zero] at hi
    refine (g_ld rfl rfl rfl (g_ld rfl rfl rfl (g_ld rfl rfl rfl (g_cv rfl (s_endOf (by decide)) (by omega) rfl rfl rfl rfl rfl rfl rfl rfl rfl (z_k1 (g_if rfl rfl (fun zc55 => (g_ld rfl rfl rfl (g_ri rfl rfl ?_ ?_))) (fun zc55 => (g_ld rfl rfl rfl (g_if rfl rfl (fun zc60 => (g_ld rfl rfl rfl (g_ri rfl rfl ?_ ?_))) (fun zc60 => ?_))))))))))
    · rfl
    · exact ⟨Or.inl (by rw [sub, List.append_nil]; exact ⟨hR.2.1, rfl, hR⟩), hA⟩
    · rfl
    · exact absurd zc60 (by decide)
    · rw [e1, hi] at zc55
      exact absurd (Int32.le_refl _) zc55
  | cons c m ih =>
    intro i b S w hm hi hR hA
    have e1 : f_end S 3 (nI p) = nI (st + (bT B p).length) := by rw [← h2]; unfold f_end; rw [hA.1 _ (by decide)]
    simp only [List.length_cons] at hi
    have hsm : (bT B p).getD i 0 = c ∧ (bT B p).drop (i + 1) = m ∧ c ∈ bT B p := by
      have e : (bT B p)[i]? = some c := by rw [← List.head?_drop, hm]; rfl
      refine ⟨by rw [List.getD_eq_getElem?_getD, e]; rfl, ?_, List.mem_of_getElem? e⟩
      rw [← List.drop_drop, hm]; rfl
    have e2 : f_sgn S 3 (nI (st + i)) = nI c := by rw [← hsm.1, ← h4 i (by omega)]; unfold f_sgn; rw [hA.1 _ (by decide)]
    have hc6 := h6 c hsm.2.2
    refine (g_ld rfl rfl rfl (g_ld rfl rfl rfl (g_ld rfl rfl rfl (g_cv rfl (s_endOf (by decide)) (by omega) rfl rfl rfl rfl rfl rfl rfl rfl rfl (z_k1 (g_if rfl rfl (fun zc55 => (g_ld rfl rfl rfl (g_ri rfl rfl ?_ ?_))) (fun zc55 => (g_ld rfl rfl rfl (g_if rfl rfl (fun zc60 => (g_ld rfl rfl rfl (g_ri rfl rfl ?_ ?_))) (fun zc60 => (g_ld rfl rfl rfl (g_ld rfl rfl rfl (g_cv rfl (s_signAt (by decide)) (by omega) rfl rfl rfl rfl rfl rfl rfl rfl rfl (z_k1 (g_st rfl rfl rfl rfl rfl ?_)))))))))))))))
    · rfl
    · rw [e1] at zc55
      have := le_n zc55
      omega
    · rfl
    · exact absurd zc60 (by decide)
    · rw [e2]
      refine (g_ld rfl rfl rfl (g_c rfl rfl (g_if rfl rfl (fun zc74 => (g_ld rfl rfl rfl (g_c rfl rfl (g_if rfl rfl (fun zc94 => (g_ld rfl rfl rfl (g_ld rfl rfl rfl (g_cv rfl (s_radd (Or.inl rfl) (n := b.length) hR.2.1 hR.1) (by omega) rfl rfl rfl rfl rfl rfl rfl rfl rfl (fun zv114 zS114 zh114 => ?_))))) (fun zc94 => ?_))))) (fun zc74 => ?_))))
      · have hc4 : c ≠ 4 := fun e => zc74 (by rw [e]; rfl)
        have hc5 : c ≠ 5 := fun e => zc94 (by rw [e]; rfl)
        have ep : put c A1 A2 = [c] := by unfold put; rw [if_neg hc4, if_neg hc5]
        rw [sub, ep]
        rcases zh114 with ⟨hn, rfl, rfl⟩ | ⟨hn, rfl, rfl⟩
        · refine (g_st rfl rfl rfl rfl rfl (g_inc rfl rfl rfl rfl (g_go rfl ?_)))
          exact lp_tt0 (by simp; omega) hA
        · refine (g_st rfl rfl rfl rfl rfl (g_inc rfl rfl rfl rfl (g_go rfl ?_)))
          have := ih (i + 1) (b ++ [c]) _ (some (.int (nI c))) hsm.2.1 (by omega) (RowR.push hR hn) ((hA.ui (by decide)).ui (by decide))
          rw [← Nat.add_assoc, nI_succ (st + i), List.append_assoc] at this
          exact this
      · have hc5 : c = 5 := eq_n (b := 5) (Decidable.not_not.mp zc94)
        obtain ⟨k1, k2, k3⟩ := hA2 (by rw [← hc5]; exact hsm.2.2)
        have hS2 : At (S.1 21) second A2 := by rw [hA.1 _ (by decide)]; exact k2
        have hN2 := k3
        have hE2 : nI endd = nI (second + A2.length) := by rw [k1]
        have ep : put c A1 A2 = A2 := by unfold put; rw [if_neg (by omega), if_pos hc5]
        rw [sub, ep]
        refine (g_ld rfl rfl rfl (g_ld rfl rfl rfl (g_ld rfl rfl rfl (g_ld rfl rfl rfl (g_cv rfl (s_addSignsE (b := b) (src := A2) (a := second) hS2 hN2 hR rfl hE2) (by omega) rfl rfl rfl rfl rfl rfl rfl rfl rfl (fun zv103 zS103 zh103 => ?_))))))
        obtain ⟨h, hA3⟩ := zh103
        rcases h with ⟨g1, rfl, g3⟩ | ⟨g1, rfl⟩
        · refine (g_st rfl rfl rfl rfl rfl (g_go rfl (g_inc rfl rfl rfl rfl (g_go rfl ?_))))
          have := ih (i + 1) (b ++ A2) _ (some (.int (nI c))) hsm.2.1 (by omega) g3 (hA.tr hA3)
          rw [← Nat.add_assoc, nI_succ (st + i), List.append_assoc] at this
          exact this
        · refine (g_st rfl rfl rfl rfl rfl (g_go rfl (g_inc rfl rfl rfl rfl (g_go rfl ?_))))
          exact lp_tt0 (by simp; omega) (hA.tr hA3)
      · have hc4 : c = 4 := eq_n (b := 4) (Decidable.not_not.mp zc74)
        obtain ⟨k1, k2, k3⟩ := hA1 (by rw [← hc4]; exact hsm.2.2)
        have hS1 : At (S.1 21) first A1 := by rw [hA.1 _ (by decide)]; exact k2
        have hN1 := k3
        have hE1 : nI second = nI (first + A1.length) := by rw [k1]
        have ep : put c A1 A2 = A1 := by unfold put; rw [if_pos hc4]
        rw [sub, ep]
        refine (g_ld rfl rfl rfl (g_ld rfl rfl rfl (g_ld rfl rfl rfl (g_ld rfl rfl rfl (g_cv rfl (s_addSignsE (b := b) (src := A1) (a := first) hS1 hN1 hR rfl hE1) (by omega) rfl rfl rfl rfl rfl rfl rfl rfl rfl (fun zv83 zS83 zh83 => ?_))))))
        obtain ⟨h, hA3⟩ := zh83
        rcases h with ⟨g1, rfl, g3⟩ | ⟨g1, rfl⟩
        · refine (g_st rfl rfl rfl rfl rfl (g_go rfl (g_inc rfl rfl rfl rfl (g_go rfl ?_))))
          have := ih (i + 1) (b ++ A1) _ (some (.int (nI c))) hsm.2.1 (by omega) g3 (hA.tr hA3)
          rw [← Nat.add_assoc, nI_succ (st + i), List.append_assoc] at this
          exact this
        · refine (g_st rfl rfl rfl rfl rfl (g_go rfl (g_inc rfl rfl rfl rfl (g_go rfl ?_))))
          exact lp_tt0 (by simp; omega) (hA.tr hA3)
end
