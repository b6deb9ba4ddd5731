/-! the Reader: what each phase takes -/
section
variable {l : Launch} {D : va_G} {ad : Nat → Nat} {cA : ClassId} {x y z w : Int32} {S S' S0 : zS} {B : Bk} {K : Nat → Nat} {n p k b c s o j r : Nat} {q q' : Ps}
theorem s_addClass4 (hS : S.1 10 7 = nI 4) : Sp (l, wX, D, ad, cA) 0 m_Book_addClass [.ref 10, .int x] S (fun v S' => v = .int 0 ∧ S' = S) := by
  refine Sp.of dk_Book_addClass ok_Book_addClass rfl (g_ld rfl rfl rfl (g_gi rfl rfl rfl rfl rfl (g_if rfl rfl (fun zc4 => (g_c rfl rfl (g_ri rfl rfl rfl ?_))) (fun zc4 => (g_ld rfl rfl rfl (g_gi rfl rfl rfl rfl rfl (g_c rfl rfl (g_if rfl rfl (fun zc12 => ?_) (fun zc12 => (g_c rfl rfl (g_ri rfl rfl rfl ?_)))))))))))
  · exact ⟨rfl, rfl⟩
  · rw [hS] at zc12
    exact absurd zc12 (by decide)
  · exact ⟨rfl, rfl⟩
theorem DfX.cls (h : DfX S B K k r) (hn : bN B < 4) (hx : x = nI s) : DfX (z_ui (z_ui S 12 (bN B) x) 10 7 (nI (bN B + 1))) (bN B + 1, upN (bP B) (bN B) s, bM B, bT B) K k r := by
  subst hx
  obtain ⟨h1, h2, h3, h4, h5, h6, h7⟩ := h
  refine ⟨?_, fun i hi => ?_, fun i hi => ?_, fun i hi => ?_, ?_, h6, fun r hr => ?_⟩
  · rw [ui_at, pk_us]; rfl
  · rw [ui_ne (by decide), ui_at]
    show _ = nI (upN (bP B) (bN B) s i)
    unfold upN
    by_cases e : i = bN B
    · rw [if_pos e, e, pk_us]
    · rw [if_neg e, pk_un e]; exact h2 i hi
  · rw [ui_ne (by decide), ui_ne (by decide)]; exact h3 i hi
  · rw [ui_ne (by decide), ui_ne (by decide)]; exact h4 i hi
  · rw [ui_at, pk_un (by decide), ui_ne (by decide)]; exact h5
  · rw [ui_ne (by decide), ui_ne (by decide), ui_ne (by decide), ui_ne (by decide), ui_ne (by decide), ui_ne (by decide)]
    exact h7 r hr
theorem DfX.member {pl kd : Nat} (h : DfX S B K k r) (hb : b < 4) (hpl : pl < 16) (hx : x = nI kd) (hy : y = nI k) (hz : z = nI (bM B b + 1)) : DfX (z_ui (z_ui (z_ui (z_ui S 11 pl x) 15 pl y) 16 pl y) 13 b z) (bN B, bP B, upN (bM B) b (bM B b + 1), fun j => if j = pl then [] else bT B j) (upN K pl kd) k pl := by
  subst hx
  subst hz
  have h1 : DfX (z_ui S 11 pl (nI kd)) B (upN K pl kd) k r := by
    obtain ⟨h1, h2, h3, h4, h5, h6, h7⟩ := h
    refine ⟨by rw [ui_ne (by decide)]; exact h1, fun i hi => by rw [ui_ne (by decide)]; exact h2 i hi, fun i hi => by rw [ui_ne (by decide)]; exact h3 i hi, fun i hi => ?_, by rw [ui_ne (by decide)]; exact h5, h6, fun r hr => ?_⟩
    · rw [ui_at]
      unfold upN
      by_cases e : i = pl
      · rw [if_pos e, e, pk_us]
      · rw [if_neg e, pk_un e]; exact h4 i hi
    · rw [ui_ne (by decide), ui_ne (by decide), ui_ne (by decide)]
      exact h7 r hr
  obtain ⟨g1, g2, g3, g4, g5, g6, g7⟩ := DfX.begin h1 hpl hy
  refine ⟨by rw [ui_ne (by decide)]; exact g1, fun i hi => by rw [ui_ne (by decide)]; exact g2 i hi, fun i hi => ?_, fun i hi => by rw [ui_ne (by decide)]; exact g4 i hi, by rw [ui_ne (by decide)]; exact g5, g6, fun r hr => ?_⟩
  · rw [ui_at]
    show _ = nI (upN (bM B) b (bM B b + 1) i)
    unfold upN
    by_cases e : i = b
    · rw [if_pos e, e, pk_us]
    · rw [if_neg e, pk_un e]; exact g3 i hi
  · obtain ⟨st, a1, a2, a3, a4, a5⟩ := g7 r hr
    exact ⟨st, by rw [ui_ne (show (15 : Nat) ≠ 13 by decide)]; exact a1, by rw [ui_ne (show (16 : Nat) ≠ 13 by decide)]; exact a2, a3, by rw [ui_ne (show (14 : Nat) ≠ 13 by decide)]; exact a4, a5⟩
theorem s_addMember (h : DfX S B K k r) (h4 : bN B ≤ 4) (hb : b < bN B) (h3 : bM B b < 3) : Sp (l, wX, D, ad, cA) 1 m_Book_addMember [.ref 10, .int (nI b), .int x] S (fun v S' => v = .int 1 ∧ S' = z_ui (z_ui (z_ui (z_ui S 11 (3 * b + bM B b) x) 15 (3 * b + bM B b) (nI k)) 16 (3 * b + bM B b) (nI k)) 13 b (nI (bM B b + 1))) := by
  have hM : S.1 13 (nI b).toNatClampNeg = nI (bM B b) := by rw [nI_clamp (by omega)]; exact h.2.2.1 b (by omega)
  have hpl : 3 * b + bM B b < 16 := by omega
  have hxp : 3 * nI b + S.1 13 (nI b).toNatClampNeg = nI (3 * b + bM B b) := by rw [hM, show (3 : Int32) = nI 3 from rfl, pk_mul, nI_add]
  have hin : vp_in (nI b) 4 := vp_in_nI (by omega) (by decide)
  refine Sp.of dk_Book_addMember ok_Book_addMember rfl (g_ld rfl rfl rfl (g_ld rfl rfl rfl (g_cv rfl (s_hasClass (by decide)) (by omega) rfl rfl rfl rfl rfl rfl rfl rfl rfl (z_k1 (g_if rfl rfl (fun zc5 => (g_c rfl rfl (g_ri rfl rfl rfl ?_))) (fun zc5 => (g_ld rfl rfl rfl (g_gr rfl rfl rfl rfl rfl (g_ld rfl rfl rfl (g_ald rfl rfl rfl ?_ (g_if rfl rfl (fun zc14 => (g_c rfl rfl (g_ri rfl rfl rfl ?_))) (fun zc14 => (g_ld rfl rfl rfl (g_gr rfl rfl rfl rfl rfl (g_ld rfl rfl rfl (g_ald rfl rfl rfl ?_ (g_c rfl rfl (g_if rfl rfl (fun zc24 => (g_c rfl rfl (g_ld rfl rfl rfl (g_bin rfl rfl (g_ld rfl rfl rfl (g_gr rfl rfl rfl rfl rfl (g_ld rfl rfl rfl (g_ald rfl rfl rfl ?_ (g_bin rfl rfl (g_st rfl rfl rfl rfl rfl (g_ld rfl rfl rfl (g_gr rfl rfl rfl rfl rfl (g_ld rfl rfl rfl (g_ld rfl rfl rfl (g_ast rfl rfl rfl ?_ (g_ld rfl rfl rfl (g_ld rfl rfl rfl (g_cv rfl (s_beginType (p := 3 * b + bM B b) hpl hxp) (by omega) rfl rfl rfl rfl rfl rfl rfl rfl rfl (fun zv49 zS49 zh49 => ?_))))))))))))))))))) (fun zc24 => (g_c rfl rfl (g_ri rfl rfl rfl ?_)))))))))))))))))))))
  · have g := b2_0.mp zc5
    rw [h.1] at g
    exact absurd ⟨(in4 (k := b) (by omega)).1, nI_lt hb (by omega), (in4 (k := b) (by omega)).2⟩ g
  · exact hin
  · rw [hM] at zc14
    exact absurd zc14 (nI_pos (by omega))
  · exact hin
  · exact hin
  · rw [hxp]
    exact vp_in_nI (show 3 * b + bM B b < 12 by omega) (by decide)
  · obtain ⟨rfl, rfl⟩ := zh49
    rw [hxp, nI_clamp (by omega)]
    refine (g_ld rfl rfl rfl (g_gr rfl rfl rfl rfl rfl (g_ld rfl rfl rfl (g_dup2 rfl rfl rfl (g_ald rfl rfl rfl ?_ (g_c rfl rfl (g_bin rfl rfl (g_ast rfl rfl rfl ?_ (g_c rfl rfl (g_ri rfl rfl rfl ?_))))))))))
    · exact hin
    · exact hin
    · refine ⟨rfl, ?_⟩
      rw [ui_ne (show (13 : Nat) ≠ 16 by decide), ui_ne (show (13 : Nat) ≠ 15 by decide), ui_ne (show (13 : Nat) ≠ 11 by decide), hM, ui_ne (show (10 : Nat) ≠ 11 by decide), h.2.2.2.2.1, nI_clamp (by omega), nI_succ]
  · rw [hM] at zc24
    exact absurd (nI_lt (b := 3) h3 (by decide)) zc24
theorem s_addMember3 (h : DfX S B K k r) (h4 : bN B ≤ 4) (hb : b < bN B) (h3 : bM B b = 3) : Sp (l, wX, D, ad, cA) 1 m_Book_addMember [.ref 10, .int (nI b), .int x] S (fun v S' => v = .int 0 ∧ S' = S) := by
  have hM : S.1 13 (nI b).toNatClampNeg = nI (bM B b) := by rw [nI_clamp (by omega)]; exact h.2.2.1 b (by omega)
  have hin : vp_in (nI b) 4 := vp_in_nI (by omega) (by decide)
  refine Sp.of dk_Book_addMember ok_Book_addMember rfl (g_ld rfl rfl rfl (g_ld rfl rfl rfl (g_cv rfl (s_hasClass (by decide)) (by omega) rfl rfl rfl rfl rfl rfl rfl rfl rfl (z_k1 (g_if rfl rfl (fun zc5 => (g_c rfl rfl (g_ri rfl rfl rfl ?_))) (fun zc5 => (g_ld rfl rfl rfl (g_gr rfl rfl rfl rfl rfl (g_ld rfl rfl rfl (g_ald rfl rfl rfl ?_ (g_if rfl rfl (fun zc14 => (g_c rfl rfl (g_ri rfl rfl rfl ?_))) (fun zc14 => (g_ld rfl rfl rfl (g_gr rfl rfl rfl rfl rfl (g_ld rfl rfl rfl (g_ald rfl rfl rfl ?_ (g_c rfl rfl (g_if rfl rfl (fun zc24 => ?_) (fun zc24 => (g_c rfl rfl (g_ri rfl rfl rfl ?_)))))))))))))))))))))
  · exact ⟨rfl, rfl⟩
  · exact hin
  · exact ⟨rfl, rfl⟩
  · exact hin
  · rw [hM, h3] at zc24
    exact absurd zc24 (by decide)
  · exact ⟨rfl, rfl⟩
theorem RdX.pl (h : RdX S q j) : S.1 17 1 = nI (qH q) := h.2.1
theorem RdX.df (h : RdX S q j) : ∃ k, k ≤ j ∧ DfX S (qB q) (qK q) k 99 := by
  obtain ⟨-, -, -, ⟨k, h1, h2⟩, -⟩ := h
  exact ⟨k, h1, h2.un⟩
/-- in a phase without an open type -/
theorem RdX.mk' (hq : QOk q) (h1 : S.1 17 1 = nI (qH q)) (h2 : S.1 17 2 = nI (qN q)) (h3 : ∃ k, k ≤ j ∧ DfX S (qB q) (qK q) k 99) (h4 : qH q ≠ 3 ∧ qH q ≠ 5) (h5 : qO q ≤ 1 + 2 * j) : RdX S q j := by
  obtain ⟨k, hk, hd⟩ := h3
  refine ⟨hq, h1, h2, ⟨k, hk, ?_⟩, fun z => absurd z (by omega), h5⟩
  unfold cur
  rw [if_neg h4.1, if_neg h4.2]
  exact hd
/-- a sign was taken -/
theorem RdX.ofS {h p o s k : Nat} (hq : QOk (stS q h p o s)) {w' : Value} (ht : tsPost S (qB q) (qK q) k p o s w' S') (h1 : S.1 17 1 = nI h) (h2 : S.1 17 2 = nI (qN q)) (h3 : S.1 17 3 = nI p) (hk : k + 1 ≤ j) (hh : (h = 3 ∧ p = 12 + qN q) ∨ (h = 5 ∧ p = pl5 q)) (hO : o + bP (qB q) s ≤ 1 + 2 * j) : RdX S' (stS q h p o s) j := by
  obtain ⟨-, -, hd, g4, g1, g2, g3⟩ := ht
  have e1 : qH (stS q h p o s) = if o + bP (qB q) s = 0 then 4 else h := rfl
  by_cases e : o + bP (qB q) s = 0
  · rw [if_pos e] at g1 e1
    exact RdX.mk' hq (by rw [g1, e1]; rfl) (by rw [g2, h2]; rfl) ⟨k + 1, hk, hd.un⟩ (by rw [e1]; decide) hO
  · rw [if_neg e] at g1 e1
    have ec : cur (stS q h p o s) = p := by
      unfold cur
      rw [e1]
      rcases hh with ⟨a, b⟩ | ⟨a, b⟩
      · rw [if_pos a, b]; rfl
      · rw [if_neg (by omega), if_pos a, b]; rfl
    refine ⟨hq, by rw [g1, h1, e1], by rw [g2, h2]; rfl, ⟨k + 1, hk, ?_⟩, fun _ => ⟨by rw [g3, h3, ec], g4⟩, hO⟩
    rw [ec]
    exact hd
end
