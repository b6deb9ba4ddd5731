/-! takeType, putIntoSlot, begin, copies -/
theorem cl0 : (0 : Int32).toNatClampNeg = 0 := by decide
theorem cl4 : (4 : Int32).toNatClampNeg = 4 := by decide
theorem cl6 : (6 : Int32).toNatClampNeg = 6 := by decide
theorem cl8 : (8 : Int32).toNatClampNeg = 8 := by decide
theorem cl12 : (12 : Int32).toNatClampNeg = 12 := by decide
theorem cl16 : (16 : Int32).toNatClampNeg = 16 := by decide
theorem cl90 : (90 : Int32).toNatClampNeg = 90 := by decide
theorem cl120 : (120 : Int32).toNatClampNeg = 120 := by decide
section
variable {l : Launch} {D : va_G} {ad : Nat → Nat} {cA : ClassId} {d r q n : Nat} {x z : Int32} {S S0 : zS} {B : Bk} {V kd : Nat → Nat} {sl : Nat → List Nat}
theorem bh_le {q : Nat} : ∀ (k i : Nat) (o : Int32), f_bh S q k i o ≤ i + k
  | 0, i, _ => Nat.le_refl _
  | k + 1, i, o => by
    rw [f_bh]
    split
    · omega
    · have := bh_le (q := q) k (i + 1) (o + (f_par S 3 (S.1 q i) - 1)); omega
theorem sl_args (hB : BkX S 3 B) (hW : WfB B) (hSl : SlX S sl) {s : Nat} (hs : s < 8) (hc : CT B (sl s)) :
    (0 < bP B (ahd (sl s)) → f_bh S 21 (120 - (15 * s + 1)) (15 * s + 1) 1 = 15 * s + 1 + (arg (bP B) (sl s) 0).length ∧ At (S.1 21) (15 * s + 1) (arg (bP B) (sl s) 0) ∧ 15 * s + 1 + (arg (bP B) (sl s) 0).length ≤ 120) ∧
    (1 < bP B (ahd (sl s)) → f_bh S 21 (120 - f_bh S 21 (120 - (15 * s + 1)) (15 * s + 1) 1) (f_bh S 21 (120 - (15 * s + 1)) (15 * s + 1) 1) 1 = f_bh S 21 (120 - (15 * s + 1)) (15 * s + 1) 1 + (arg (bP B) (sl s) 1).length ∧ At (S.1 21) (f_bh S 21 (120 - (15 * s + 1)) (15 * s + 1) 1) (arg (bP B) (sl s) 1) ∧ f_bh S 21 (120 - (15 * s + 1)) (15 * s + 1) 1 + (arg (bP B) (sl s) 1).length ≤ 120) := by
  obtain ⟨h1, h2, h3⟩ := hSl s hs
  obtain ⟨c, r, e, e2, hn⟩ := hc.ne
  have hc0 := hc
  rw [e] at hc h2 h3 ⊢
  rw [show ahd (c :: r) = c from rfl]
  simp only [List.length_cons] at h2
  have h4 := hW.1
  have hPc := hW.2.1 c
  have hAr := (At.cons_iff.mp h3).2
  have h6 : ∀ y ∈ r, y < 6 := fun y hy => by have := hc.1 y (List.mem_cons_of_mem _ hy); omega
  have hf := hc.2.1
  rw [finb, Nat.zero_add] at hf
  have hl1 := skipL_le (P := bP B) r 1
  have first : 0 < bP B c → f_bh S 21 (120 - (15 * s + 1)) (15 * s + 1) 1 = 15 * s + 1 + skipL (bP B) 1 r ∧ finb (bP B) 1 r = true := by
    intro hp
    have hf1 : finb (bP B) 1 r = true := by
      have : finb (bP B) (1 + (bP B c - 1)) r = true := by rw [show 1 + (bP B c - 1) = bP B c by omega]; exact hf
      exact (finb_add r 1 _ this).1
    exact ⟨bh_eq (P := bP B) (N := 120) (fun y hy => bk_par hB hW (by omega)) hW.2.1 r (15 * s + 1) 1 h6 hf1 (by omega) (by omega) (by omega) hAr, hf1⟩
  constructor
  · intro hp
    have := first hp
    have el : (arg (bP B) (c :: r) 0).length = skipL (bP B) 1 r := by simp [arg]; omega
    rw [el, this.1]
    exact ⟨rfl, hAr.take _, by omega⟩
  · intro hp
    have h1' := first (by omega)
    have hf2 : finb (bP B) (1 + 1) r = true := by rw [show 1 + 1 = bP B c by omega]; exact hf
    obtain ⟨g1, g2, g3⟩ := finb_add r 1 1 hf2
    have hl2 := skipL_le (P := bP B) (r.drop (skipL (bP B) 1 r)) 1
    rw [List.length_drop] at hl2
    have el : (arg (bP B) (c :: r) 1).length = skipL (bP B) 1 (r.drop (skipL (bP B) 1 r)) := by simp [arg]; omega
    rw [h1'.1, el]
    have hAd : At (S.1 21) (15 * s + 1 + skipL (bP B) 1 r) (r.drop (skipL (bP B) 1 r)) := hAr.drop hl1
    refine ⟨?_, hAd.take _, by omega⟩
    exact bh_eq (P := bP B) (N := 120) (fun y hy => bk_par hB hW (by omega)) hW.2.1 _ _ 1 (fun y hy => h6 y (List.mem_of_mem_drop hy)) g2 (by rw [List.length_drop]; omega) (by omega) (by rw [List.length_drop]; omega) hAd
theorem s_takeType (hB : BkX S 3 B) (hW : WfB B) (hSl : SlX S sl) {p s : Nat} (hp : p < 16) (hs : s < 8) (hc : CT B (sl s)) (hsg : ∀ y ∈ bT B p, sgOk B (ahd (sl s)) y) {xp xs : Int32} (hxp : xp = nI p) (hxs : xs = nI s) : Sp (l, wX, D, ad, cA) 2 m_Row_takeType [.ref 38, .ref 3, .int xp, .ref 18, .int xs] S (tyPost S (sub (bT B p) (arg (bP B) (sl s) 0) (arg (bP B) (sl s) 1))) := by
  subst hxp
  subst hxs
  obtain ⟨st, h1, h2, h3, h4, h5⟩ := bk_ty hB hp
  obtain ⟨a1, a2⟩ := sl_args hB hW hSl hs hc
  have h4n := hW.1
  have hxf : 15 * nI s + 1 = nI (15 * s + 1) := e15 s 1
  have hsec : f_bh S 21 (120 - (15 * s + 1)) (15 * s + 1) 1 ≤ 120 := by have := bh_le (S := S) (q := 21) (120 - (15 * s + 1)) (15 * s + 1) 1; omega
  refine Sp.of dk_Row_takeType ok_Row_takeType rfl (g_c rfl rfl (g_ld rfl rfl rfl (g_bin rfl rfl (g_c rfl rfl (g_bin rfl rfl (g_st rfl rfl rfl rfl rfl (g_ld rfl rfl rfl (g_ld rfl rfl rfl (g_gr rfl rfl rfl rfl rfl (g_ld rfl rfl rfl (g_cv rfl (s_behindE (N := 120) (n := 15 * s + 1) (Or.inl ⟨rfl, rfl⟩) (by omega) hxf) (by omega) rfl rfl rfl rfl rfl rfl rfl rfl rfl (z_k1 (g_st rfl rfl rfl rfl rfl (g_ld rfl rfl rfl (g_ld rfl rfl rfl (g_gr rfl rfl rfl rfl rfl (g_ld rfl rfl rfl (g_cv rfl (s_behindE (N := 120) (n := f_bh S 21 (120 - (15 * s + 1)) (15 * s + 1) 1) (Or.inl ⟨rfl, rfl⟩) hsec rfl) (by omega) rfl rfl rfl rfl rfl rfl rfl rfl rfl (z_k1 (g_st rfl rfl rfl rfl rfl (g_c rfl rfl (g_st rfl rfl rfl rfl rfl (g_ld rfl rfl rfl (g_c rfl rfl (g_pi rfl rfl rfl rfl rfl rfl rfl (g_ld rfl rfl rfl (g_ld rfl rfl rfl (g_cv rfl (s_startOf (by decide)) (by omega) rfl rfl rfl rfl rfl rfl rfl rfl rfl (z_k1 (g_st rfl rfl rfl rfl rfl ?_))))))))))))))))))))))))))))))
  have hA : Ag [38, 39] S (z_ui S 38 1 0) := Ag.rf.ui (by decide)
  have e1 : f_sta (z_ui S 38 1 0) 3 (nI p) = nI st := by rw [← h1]; unfold f_sta; rw [hA.1 _ (by decide)]
  rw [e1, hxf]
  exact lp_takeType (B := B) (A1 := arg (bP B) (sl s) 0) (A2 := arg (bP B) (sl s) 1) h2 h3 h5 (fun y hy => sg6 hW (hsg y hy)) (fun hm => by
    rcases hsg 4 hm with g | g | g
    · omega
    · exact a1 g.2
    · omega) (fun hm => by
    rcases hsg 5 hm with g | g | g
    · omega
    · omega
    · exact a2 g.2) (bT B p) 0 [] _ none rfl (by omega) RowR.nil hA
/-! putIntoSlot -/
def piPost (S0 : zS) (sl : Nat → List Nat) (s : Nat) (t : List Nat) : Value → zS → Prop := fun v S' => v = .int (nI t.length) ∧ Ag [20, 21] S0 S' ∧ SlX S' (fun k => if k = s then t else sl k)
theorem lp_put (hSl : SlX S0 sl) {s : Nat} (hs : s < 8) {t : List Nat} (hR : RowR S0 38 t) : ∀ (k i : Nat) (S : zS), t.length - i = k → i ≤ t.length → Ag [21] S0 S → At (S.1 21) (15 * s) (t.take i) → (∀ j, ¬ (15 * s ≤ j ∧ j < 15 * s + 15) → S.1 21 j = S0.1 21 j) → Go (l, wX, D, ad, cA) 1 m_Hold_putIntoSlot (piPost S0 sl s t) 11 [some (.ref 18), some (.int (nI s)), some (.ref 38), some (.int (nI i))] [] S := by
  have h15 := hR.2.1
  intro k
  induction k using Nat.strongRecOn with
  | ind k ih =>
    intro i S hk hi hA hAt hout
    have hR2 : RowR S 38 t := hR.ag (hA.1 _ (by decide)) (hA.1 _ (by decide))
    have fin : t.length ≤ i → piPost S0 sl s t (.int (S.1 38 1)) (z_ui S 20 (nI s).toNatClampNeg (S.1 38 1)) := by
      intro hle
      rw [nI_clamp (by omega), hR2.1]
      rw [List.take_of_length_le (by omega)] at hAt
      refine ⟨rfl, (hA.mono (by simp)).ui (by decide), fun k hk8 => ?_⟩
      rw [ui_at, ui_ne (by decide)]
      by_cases hks : k = s
      · subst hks
        simp only [if_true]
        rw [pk_us]
        exact ⟨rfl, h15, hAt⟩
      · simp only [if_neg hks]
        rw [pk_un hks, hA.1 20 (by decide)]
        obtain ⟨g1, g2, g3⟩ := hSl k hk8
        exact ⟨g1, g2, g3.congr (fun j hj => hout _ (by omega))⟩
    refine (g_ld rfl rfl rfl (g_ld rfl rfl rfl (g_gi rfl rfl rfl rfl rfl (g_if rfl rfl (fun zc16 => (g_ld rfl rfl rfl (g_gr rfl rfl rfl rfl rfl (g_ld rfl rfl rfl (g_ld rfl rfl rfl (g_gi rfl rfl rfl rfl rfl (g_ast rfl rfl rfl ?_ (g_ld rfl rfl rfl (g_gi rfl rfl rfl rfl rfl (g_ri rfl rfl rfl ?_)))))))))) (fun zc16 => (g_ld rfl rfl rfl (g_c rfl rfl (g_if rfl rfl (fun zc22 => (g_ld rfl rfl rfl (g_gr rfl rfl rfl rfl rfl (g_ld rfl rfl rfl (g_ld rfl rfl rfl (g_gi rfl rfl rfl rfl rfl (g_ast rfl rfl rfl ?_ (g_ld rfl rfl rfl (g_gi rfl rfl rfl rfl rfl (g_ri rfl rfl rfl ?_)))))))))) (fun zc22 => (g_ld rfl rfl rfl (g_gr rfl rfl rfl rfl rfl (g_c rfl rfl (g_ld rfl rfl rfl (g_bin rfl rfl (g_ld rfl rfl rfl (g_bin rfl rfl (g_ld rfl rfl rfl (g_ld rfl rfl rfl (g_cv rfl (s_rsignAt (by decide)) (by omega) rfl rfl rfl rfl rfl rfl rfl rfl rfl (z_k1 (g_ast rfl rfl rfl ?_ (g_inc rfl rfl rfl rfl (g_go rfl ?_)))))))))))))))))))))))
    · exact vp_in_nI hs (by omega)
    · rw [hR2.1] at zc16
      have := fin (le_n zc16)
      rw [ui_ne (by decide)]
      exact this
    · exact vp_in_nI hs (by omega)
    · rw [hR2.1] at zc16
      have h1 := nle_n zc16
      have := le_n (a := 15) zc22
      omega
    · rw [hR2.1] at zc16
      have h1 := nle_n zc16
      rw [e15]
      exact vp_in_nI (by omega) (by omega)
    · rw [hR2.1] at zc16
      have h1 := nle_n zc16
      rw [e15, nI_clamp (by omega), row_at hR2 h1]
      have hl : (t.take i).length = i := by simp; omega
      have := ih _ (by omega) (i + 1) (z_ui S 21 (15 * s + i) (nI (t.getD i 0))) rfl h1 (hA.ui (by decide)) (by
        rw [take_s h1, ui_at]
        have := At.push (s := t.getD i 0) hAt
        rw [hl] at this
        exact this) (fun j hj => by
        rw [ui_at, pk_un (by omega)]
        exact hout j hj)
      rw [nI_succ i] at this
      exact this
theorem s_put (hSl : SlX S sl) {s : Nat} (hs : s < 8) {t : List Nat} (hR : RowR S 38 t) (hx : x = nI s) : Sp (l, wX, D, ad, cA) 1 m_Hold_putIntoSlot [.ref 18, .int x, .ref 38] S (piPost S sl s t) := by
  subst hx
  refine Sp.of dk_Hold_putIntoSlot ok_Hold_putIntoSlot rfl (g_ld rfl rfl rfl (g_cs rfl (s_isSlot) (by omega) rfl rfl rfl rfl rfl rfl (z_k1 (g_if rfl rfl (fun zc4 => (g_c rfl rfl (g_st rfl rfl rfl rfl rfl ?_))) (fun zc4 => (g_c rfl rfl (g_ri rfl rfl rfl ?_)))))))
  · exact lp_put hSl hs hR _ 0 S rfl (Nat.zero_le _) Ag.rf At.nil (fun _ _ => rfl)
  · exact absurd (b2_n.mpr (in8 hs)) zc4
/-! copies -/
theorem s_hcopy {r o : Nat} (hr : (r = 18 ∧ o = 24) ∨ (r = 24 ∧ o = 18)) : Sp (l, wX, D, ad, cA) 0 m_Hold_copy [.ref r, .ref o] S (fun v S' => v = .null ∧ Ag [r, r + 1, r + 2, r + 3, r + 4, r + 5] S S' ∧ (∀ i, i < 12 → S'.1 (r + 1) i = S.1 (o + 1) i) ∧ (∀ i, i < 8 → S'.1 (r + 2) i = S.1 (o + 2) i) ∧ (∀ i, i < 120 → S'.1 (r + 3) i = S.1 (o + 3) i) ∧ (∀ i, i < 6 → S'.1 (r + 4) i = S.1 (o + 4) i) ∧ (∀ i, i < 6 → S'.1 (r + 5) i = S.1 (o + 5) i) ∧ S'.1 r 5 = S.1 o 5) := by
  rcases hr with ⟨rfl, rfl⟩ | ⟨rfl, rfl⟩
  all_goals
    refine Sp.of dk_Hold_copy ok_Hold_copy rfl (g_ld rfl rfl rfl (g_gr rfl rfl rfl rfl rfl (g_c rfl rfl (g_ld rfl rfl rfl (g_gr rfl rfl rfl rfl rfl (g_c rfl rfl (g_c rfl rfl (g_cpy rfl rfl rfl rfl rfl (by decide) (by decide) (by decide) (by decide) (by decide) (by decide) (g_ld rfl rfl rfl (g_gr rfl rfl rfl rfl rfl (g_c rfl rfl (g_ld rfl rfl rfl (g_gr rfl rfl rfl rfl rfl (g_c rfl rfl (g_c rfl rfl (g_cpy rfl rfl rfl rfl rfl (by decide) (by decide) (by decide) (by decide) (by decide) (by decide) (g_ld rfl rfl rfl (g_gr rfl rfl rfl rfl rfl (g_c rfl rfl (g_ld rfl rfl rfl (g_gr rfl rfl rfl rfl rfl (g_c rfl rfl (g_c rfl rfl (g_cpy rfl rfl rfl rfl rfl (by decide) (by decide) (by decide) (by decide) (by decide) (by decide) (g_ld rfl rfl rfl (g_gr rfl rfl rfl rfl rfl (g_c rfl rfl (g_ld rfl rfl rfl (g_gr rfl rfl rfl rfl rfl (g_c rfl rfl (g_c rfl rfl (g_cpy rfl rfl rfl rfl rfl (by decide) (by decide) (by decide) (by decide) (by decide) (by decide) (g_ld rfl rfl rfl (g_gr rfl rfl rfl rfl rfl (g_c rfl rfl (g_ld rfl rfl rfl (g_gr rfl rfl rfl rfl rfl (g_c rfl rfl (g_c rfl rfl (g_cpy rfl rfl rfl rfl rfl (by decide) (by decide) (by decide) (by decide) (by decide) (by decide) (g_ld rfl rfl rfl (g_ld rfl rfl rfl (g_gi rfl rfl rfl rfl rfl (g_pi rfl rfl rfl rfl rfl rfl rfl (g_rv rfl rfl ?_)))))))))))))))))))))))))))))))))))))))))))))
    refine ⟨rfl, ((((((Ag.rf.uf (by decide)).uf (by decide)).uf (by decide)).uf (by decide)).uf (by decide)).ui (by decide)), ?_, ?_, ?_, ?_, ?_, ?_⟩
    · intro i hi; simp [z_ui, z_uf, va_cpy, cl0, cl12, hi]
    · intro i hi; simp [z_ui, z_uf, va_cpy, cl0, cl8, hi]
    · intro i hi; simp [z_ui, z_uf, va_cpy, cl0, cl120, hi]
    · intro i hi; simp [z_ui, z_uf, va_cpy, cl0, cl6, hi]
    · intro i hi; simp [z_ui, z_uf, va_cpy, cl0, cl6, hi]
    · simp [z_ui, z_uf, upd]
theorem s_bcopy : Sp (l, wX, D, ad, cA) 0 m_Book_copy [.ref 3, .ref 10] S (fun v S' => v = .null ∧ Ag [3, 4, 5, 6, 7, 8, 9] S S' ∧ (∀ i, i < 12 → S'.1 4 i = S.1 11 i) ∧ (∀ i, i < 4 → S'.1 5 i = S.1 12 i) ∧ (∀ i, i < 4 → S'.1 6 i = S.1 13 i) ∧ (∀ i, i < 90 → S'.1 7 i = S.1 14 i) ∧ (∀ i, i < 16 → S'.1 8 i = S.1 15 i) ∧ (∀ i, i < 16 → S'.1 9 i = S.1 16 i) ∧ S'.1 3 7 = S.1 10 7) := by
  refine Sp.of dk_Book_copy ok_Book_copy rfl (g_ld rfl rfl rfl (g_gr rfl rfl rfl rfl rfl (g_c rfl rfl (g_ld rfl rfl rfl (g_gr rfl rfl rfl rfl rfl (g_c rfl rfl (g_c rfl rfl (g_cpy rfl rfl rfl rfl rfl (by decide) (by decide) (by decide) (by decide) (by decide) (by decide) (g_ld rfl rfl rfl (g_gr rfl rfl rfl rfl rfl (g_c rfl rfl (g_ld rfl rfl rfl (g_gr rfl rfl rfl rfl rfl (g_c rfl rfl (g_c rfl rfl (g_cpy rfl rfl rfl rfl rfl (by decide) (by decide) (by decide) (by decide) (by decide) (by decide) (g_ld rfl rfl rfl (g_gr rfl rfl rfl rfl rfl (g_c rfl rfl (g_ld rfl rfl rfl (g_gr rfl rfl rfl rfl rfl (g_c rfl rfl (g_c rfl rfl (g_cpy rfl rfl rfl rfl rfl (by decide) (by decide) (by decide) (by decide) (by decide) (by decide) (g_ld rfl rfl rfl (g_gr rfl rfl rfl rfl rfl (g_c rfl rfl (g_ld rfl rfl rfl (g_gr rfl rfl rfl rfl rfl (g_c rfl rfl (g_c rfl rfl (g_cpy rfl rfl rfl rfl rfl (by decide) (by decide) (by decide) (by decide) (by decide) (by decide) (g_ld rfl rfl rfl (g_gr rfl rfl rfl rfl rfl (g_c rfl rfl (g_ld rfl rfl rfl (g_gr rfl rfl rfl rfl rfl (g_c rfl rfl (g_c rfl rfl (g_cpy rfl rfl rfl rfl rfl (by decide) (by decide) (by decide) (by decide) (by decide) (by decide) (g_ld rfl rfl rfl (g_gr rfl rfl rfl rfl rfl (g_c rfl rfl (g_ld rfl rfl rfl (g_gr rfl rfl rfl rfl rfl (g_c rfl rfl (g_c rfl rfl (g_cpy rfl rfl rfl rfl rfl (by decide) (by decide) (by decide) (by decide) (by decide) (by decide) (g_ld rfl rfl rfl (g_ld rfl rfl rfl (g_gi rfl rfl rfl rfl rfl (g_pi rfl rfl rfl rfl rfl rfl rfl (g_ld rfl rfl rfl (g_ld rfl rfl rfl (g_gi rfl rfl rfl rfl rfl (g_pi rfl rfl rfl rfl rfl rfl rfl (g_rv rfl rfl ?_)))))))))))))))))))))))))))))))))))))))))))))))))))))))))
  refine ⟨rfl, ((((((((Ag.rf.uf (by decide)).uf (by decide)).uf (by decide)).uf (by decide)).uf (by decide)).uf (by decide)).ui (by decide)).ui (by decide)), ?_, ?_, ?_, ?_, ?_, ?_, ?_⟩
  · intro i hi; simp [z_ui, z_uf, va_cpy, cl0, cl12, hi]
  · intro i hi; simp [z_ui, z_uf, va_cpy, cl0, cl4, hi]
  · intro i hi; simp [z_ui, z_uf, va_cpy, cl0, cl4, hi]
  · intro i hi; simp [z_ui, z_uf, va_cpy, cl0, cl90, hi]
  · intro i hi; simp [z_ui, z_uf, va_cpy, cl0, cl16, hi]
  · intro i hi; simp [z_ui, z_uf, va_cpy, cl0, cl16, hi]
  · simp [z_ui, z_uf, upd]
end
